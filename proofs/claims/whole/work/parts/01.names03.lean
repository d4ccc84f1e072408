theorem dX12_call_40 : decode cX12_call 40 = .ok (.putfield 185, 3) := by decide +kernel
theorem dX12_call_43 : decode cX12_call 43 = .ok (.aload_n 0, 1) := by decide +kernel
theorem dX12_call_44 : decode cX12_call 44 = .ok (.getfield 44, 3) := by decide +kernel
theorem dX12_call_47 : decode cX12_call 47 = .ok (.aload_n 0, 1) := by decide +kernel
theorem dX12_call_48 : decode cX12_call 48 = .ok (.getfield 209, 3) := by decide +kernel
theorem dX12_call_51 : decode cX12_call 51 = .ok (.iload_n 1, 1) := by decide +kernel
theorem dX12_call_52 : decode cX12_call 52 = .ok (.iastore, 1) := by decide +kernel
theorem dX12_call_53 : decode cX12_call 53 = .ok (.aload_n 0, 1) := by decide +kernel
theorem dX12_call_54 : decode cX12_call 54 = .ok (.getfield 47, 3) := by decide +kernel
theorem dX12_call_57 : decode cX12_call 57 = .ok (.aload_n 0, 1) := by decide +kernel
theorem dX12_call_58 : decode cX12_call 58 = .ok (.getfield 209, 3) := by decide +kernel
theorem dX12_call_61 : decode cX12_call 61 = .ok (.iconst 0, 1) := by decide +kernel
theorem dX12_call_62 : decode cX12_call 62 = .ok (.iastore, 1) := by decide +kernel
theorem dX12_call_63 : decode cX12_call 63 = .ok (.aload_n 0, 1) := by decide +kernel
theorem dX12_call_64 : decode cX12_call 64 = .ok (.aload_n 0, 1) := by decide +kernel
theorem dX12_call_65 : decode cX12_call 65 = .ok (.getfield 209, 3) := by decide +kernel
theorem dX12_call_68 : decode cX12_call 68 = .ok (.iconst 1, 1) := by decide +kernel
theorem dX12_call_69 : decode cX12_call 69 = .ok (.iadd, 1) := by decide +kernel
theorem dX12_call_70 : decode cX12_call 70 = .ok (.putfield 209, 3) := by decide +kernel
theorem dX12_call_73 : decode cX12_call 73 = .ok (.iconst 1, 1) := by decide +kernel
theorem dX12_call_74 : decode cX12_call 74 = .ok (.ireturn, 1) := by decide +kernel
theorem dX12_leave_0 : decode cX12_leave 0 = .ok (.aload_n 0, 1) := by decide +kernel
theorem dX12_leave_1 : decode cX12_leave 1 = .ok (.aload_n 0, 1) := by decide +kernel
theorem dX12_leave_2 : decode cX12_leave 2 = .ok (.getfield 209, 3) := by decide +kernel
theorem dX12_leave_5 : decode cX12_leave 5 = .ok (.iconst 1, 1) := by decide +kernel
theorem dX12_leave_6 : decode cX12_leave 6 = .ok (.isub, 1) := by decide +kernel
theorem dX12_leave_7 : decode cX12_leave 7 = .ok (.putfield 209, 3) := by decide +kernel
theorem dX12_leave_10 : decode cX12_leave 10 = .ok (.aload_n 0, 1) := by decide +kernel
theorem dX12_leave_11 : decode cX12_leave 11 = .ok (.getfield 212, 3) := by decide +kernel
theorem dX12_leave_14 : decode cX12_leave 14 = .ok (.ifCond .le 34, 3) := by decide +kernel
theorem dX12_leave_17 : decode cX12_leave 17 = .ok (.aload_n 0, 1) := by decide +kernel
theorem dX12_leave_18 : decode cX12_leave 18 = .ok (.getfield 56, 3) := by decide +kernel
theorem dX12_leave_21 : decode cX12_leave 21 = .ok (.aload_n 0, 1) := by decide +kernel
theorem dX12_leave_22 : decode cX12_leave 22 = .ok (.getfield 212, 3) := by decide +kernel
theorem dX12_leave_25 : decode cX12_leave 25 = .ok (.iconst 1, 1) := by decide +kernel
theorem dX12_leave_26 : decode cX12_leave 26 = .ok (.isub, 1) := by decide +kernel
theorem dX12_leave_27 : decode cX12_leave 27 = .ok (.iaload, 1) := by decide +kernel
theorem dX12_leave_28 : decode cX12_leave 28 = .ok (.aload_n 0, 1) := by decide +kernel
theorem dX12_leave_29 : decode cX12_leave 29 = .ok (.getfield 209, 3) := by decide +kernel
theorem dX12_leave_32 : decode cX12_leave 32 = .ok (.if_icmp .ne 16, 3) := by decide +kernel
theorem dX12_leave_35 : decode cX12_leave 35 = .ok (.aload_n 0, 1) := by decide +kernel
theorem dX12_leave_36 : decode cX12_leave 36 = .ok (.aload_n 0, 1) := by decide +kernel
theorem dX12_leave_37 : decode cX12_leave 37 = .ok (.getfield 212, 3) := by decide +kernel
theorem dX12_leave_40 : decode cX12_leave 40 = .ok (.iconst 1, 1) := by decide +kernel
theorem dX12_leave_41 : decode cX12_leave 41 = .ok (.isub, 1) := by decide +kernel
theorem dX12_leave_42 : decode cX12_leave 42 = .ok (.putfield 212, 3) := by decide +kernel
theorem dX12_leave_45 : decode cX12_leave 45 = .ok (.goto (-35), 3) := by decide +kernel
theorem dX12_leave_48 : decode cX12_leave 48 = .ok (.return_, 1) := by decide +kernel
theorem dX12_kindAt_0 : decode cX12_kindAt 0 = .ok (.aload_n 0, 1) := by decide +kernel
theorem dX12_kindAt_1 : decode cX12_kindAt 1 = .ok (.getfield 38, 3) := by decide +kernel
theorem dX12_kindAt_4 : decode cX12_kindAt 4 = .ok (.aload_n 0, 1) := by decide +kernel
theorem dX12_kindAt_5 : decode cX12_kindAt 5 = .ok (.getfield 32, 3) := by decide +kernel
theorem dX12_kindAt_8 : decode cX12_kindAt 8 = .ok (.iload_n 1, 1) := by decide +kernel
theorem dX12_kindAt_9 : decode cX12_kindAt 9 = .ok (.iaload, 1) := by decide +kernel
theorem dX12_kindAt_10 : decode cX12_kindAt 10 = .ok (.iload_n 2, 1) := by decide +kernel
theorem dX12_kindAt_11 : decode cX12_kindAt 11 = .ok (.iadd, 1) := by decide +kernel
theorem dX12_kindAt_12 : decode cX12_kindAt 12 = .ok (.iaload, 1) := by decide +kernel
theorem dX12_kindAt_13 : decode cX12_kindAt 13 = .ok (.ireturn, 1) := by decide +kernel
theorem dX12_is_0 : decode cX12_is 0 = .ok (.aload_n 0, 1) := by decide +kernel
theorem dX12_is_1 : decode cX12_is 1 = .ok (.iload_n 1, 1) := by decide +kernel
theorem dX12_is_2 : decode cX12_is 2 = .ok (.iload_n 2, 1) := by decide +kernel
theorem dX12_is_3 : decode cX12_is 3 = .ok (.invokevirtual 215, 3) := by decide +kernel
theorem dX12_is_6 : decode cX12_is 6 = .ok (.iconst 2, 1) := by decide +kernel
theorem dX12_is_7 : decode cX12_is 7 = .ok (.if_icmp .ne 24, 3) := by decide +kernel
theorem dX12_is_10 : decode cX12_is 10 = .ok (.aload_n 0, 1) := by decide +kernel
theorem dX12_is_11 : decode cX12_is 11 = .ok (.getfield 41, 3) := by decide +kernel
theorem dX12_is_14 : decode cX12_is 14 = .ok (.aload_n 0, 1) := by decide +kernel
theorem dX12_is_15 : decode cX12_is 15 = .ok (.getfield 32, 3) := by decide +kernel
theorem dX12_is_18 : decode cX12_is 18 = .ok (.iload_n 1, 1) := by decide +kernel
theorem dX12_is_19 : decode cX12_is 19 = .ok (.iaload, 1) := by decide +kernel
theorem dX12_is_20 : decode cX12_is 20 = .ok (.iload_n 2, 1) := by decide +kernel
theorem dX12_is_21 : decode cX12_is 21 = .ok (.iadd, 1) := by decide +kernel
theorem dX12_is_22 : decode cX12_is 22 = .ok (.iaload, 1) := by decide +kernel
theorem dX12_is_23 : decode cX12_is 23 = .ok (.iload_n 3, 1) := by decide +kernel
theorem dX12_is_24 : decode cX12_is 24 = .ok (.if_icmp .ne 7, 3) := by decide +kernel
theorem dX12_is_27 : decode cX12_is 27 = .ok (.iconst 1, 1) := by decide +kernel
theorem dX12_is_28 : decode cX12_is 28 = .ok (.goto 4, 3) := by decide +kernel
theorem dX12_is_31 : decode cX12_is 31 = .ok (.iconst 0, 1) := by decide +kernel
theorem dX12_is_32 : decode cX12_is 32 = .ok (.ireturn, 1) := by decide +kernel
theorem dX12_opens_0 : decode cX12_opens 0 = .ok (.aload_n 0, 1) := by decide +kernel
theorem dX12_opens_1 : decode cX12_opens 1 = .ok (.iload_n 1, 1) := by decide +kernel
theorem dX12_opens_2 : decode cX12_opens 2 = .ok (.iload_n 2, 1) := by decide +kernel
theorem dX12_opens_3 : decode cX12_opens 3 = .ok (.iconst 0, 1) := by decide +kernel
theorem dX12_opens_4 : decode cX12_opens 4 = .ok (.invokevirtual 219, 3) := by decide +kernel
theorem dX12_opens_7 : decode cX12_opens 7 = .ok (.ifCond .ne 24, 3) := by decide +kernel
theorem dX12_opens_10 : decode cX12_opens 10 = .ok (.aload_n 0, 1) := by decide +kernel
theorem dX12_opens_11 : decode cX12_opens 11 = .ok (.iload_n 1, 1) := by decide +kernel
theorem dX12_opens_12 : decode cX12_opens 12 = .ok (.iload_n 2, 1) := by decide +kernel
theorem dX12_opens_13 : decode cX12_opens 13 = .ok (.iconst 3, 1) := by decide +kernel
theorem dX12_opens_14 : decode cX12_opens 14 = .ok (.invokevirtual 219, 3) := by decide +kernel
theorem dX12_opens_17 : decode cX12_opens 17 = .ok (.ifCond .ne 14, 3) := by decide +kernel
theorem dX12_opens_20 : decode cX12_opens 20 = .ok (.aload_n 0, 1) := by decide +kernel
theorem dX12_opens_21 : decode cX12_opens 21 = .ok (.iload_n 1, 1) := by decide +kernel
theorem dX12_opens_22 : decode cX12_opens 22 = .ok (.iload_n 2, 1) := by decide +kernel
theorem dX12_opens_23 : decode cX12_opens 23 = .ok (.bipush 8, 2) := by decide +kernel
theorem dX12_opens_25 : decode cX12_opens 25 = .ok (.invokevirtual 219, 3) := by decide +kernel
theorem dX12_opens_28 : decode cX12_opens 28 = .ok (.ifCond .eq 7, 3) := by decide +kernel
theorem dX12_opens_31 : decode cX12_opens 31 = .ok (.iconst 1, 1) := by decide +kernel
theorem dX12_opens_32 : decode cX12_opens 32 = .ok (.goto 4, 3) := by decide +kernel
theorem dX12_opens_35 : decode cX12_opens 35 = .ok (.iconst 0, 1) := by decide +kernel
theorem dX12_opens_36 : decode cX12_opens 36 = .ok (.ireturn, 1) := by decide +kernel
theorem dX12_closes_0 : decode cX12_closes 0 = .ok (.aload_n 0, 1) := by decide +kernel
theorem dX12_closes_1 : decode cX12_closes 1 = .ok (.iload_n 1, 1) := by decide +kernel
theorem dX12_closes_2 : decode cX12_closes 2 = .ok (.iload_n 2, 1) := by decide +kernel
theorem dX12_closes_3 : decode cX12_closes 3 = .ok (.iconst 2, 1) := by decide +kernel
theorem dX12_closes_4 : decode cX12_closes 4 = .ok (.invokevirtual 219, 3) := by decide +kernel
theorem dX12_closes_7 : decode cX12_closes 7 = .ok (.ifCond .ne 45, 3) := by decide +kernel
theorem dX12_closes_10 : decode cX12_closes 10 = .ok (.aload_n 0, 1) := by decide +kernel
theorem dX12_closes_11 : decode cX12_closes 11 = .ok (.iload_n 1, 1) := by decide +kernel
theorem dX12_closes_12 : decode cX12_closes 12 = .ok (.iload_n 2, 1) := by decide +kernel
theorem dX12_closes_13 : decode cX12_closes 13 = .ok (.iconst 4, 1) := by decide +kernel
theorem dX12_closes_14 : decode cX12_closes 14 = .ok (.invokevirtual 219, 3) := by decide +kernel
theorem dX12_closes_17 : decode cX12_closes 17 = .ok (.ifCond .ne 35, 3) := by decide +kernel
theorem dX12_closes_20 : decode cX12_closes 20 = .ok (.aload_n 0, 1) := by decide +kernel
theorem dX12_closes_21 : decode cX12_closes 21 = .ok (.iload_n 1, 1) := by decide +kernel
theorem dX12_closes_22 : decode cX12_closes 22 = .ok (.iload_n 2, 1) := by decide +kernel
theorem dX12_closes_23 : decode cX12_closes 23 = .ok (.iconst 5, 1) := by decide +kernel
theorem dX12_closes_24 : decode cX12_closes 24 = .ok (.invokevirtual 219, 3) := by decide +kernel
theorem dX12_closes_27 : decode cX12_closes 27 = .ok (.ifCond .ne 25, 3) := by decide +kernel
theorem dX12_closes_30 : decode cX12_closes 30 = .ok (.aload_n 0, 1) := by decide +kernel
theorem dX12_closes_31 : decode cX12_closes 31 = .ok (.iload_n 1, 1) := by decide +kernel
theorem dX12_closes_32 : decode cX12_closes 32 = .ok (.iload_n 2, 1) := by decide +kernel
theorem dX12_closes_33 : decode cX12_closes 33 = .ok (.bipush 7, 2) := by decide +kernel
theorem dX12_closes_35 : decode cX12_closes 35 = .ok (.invokevirtual 219, 3) := by decide +kernel
theorem dX12_closes_38 : decode cX12_closes 38 = .ok (.ifCond .ne 14, 3) := by decide +kernel
theorem dX12_closes_41 : decode cX12_closes 41 = .ok (.aload_n 0, 1) := by decide +kernel
theorem dX12_closes_42 : decode cX12_closes 42 = .ok (.iload_n 1, 1) := by decide +kernel
theorem dX12_closes_43 : decode cX12_closes 43 = .ok (.iload_n 2, 1) := by decide +kernel
theorem dX12_closes_44 : decode cX12_closes 44 = .ok (.bipush 9, 2) := by decide +kernel
theorem dX12_closes_46 : decode cX12_closes 46 = .ok (.invokevirtual 219, 3) := by decide +kernel
theorem dX12_closes_49 : decode cX12_closes 49 = .ok (.ifCond .eq 7, 3) := by decide +kernel
theorem dX12_closes_52 : decode cX12_closes 52 = .ok (.iconst 1, 1) := by decide +kernel
theorem dX12_closes_53 : decode cX12_closes 53 = .ok (.goto 4, 3) := by decide +kernel
theorem dX12_closes_56 : decode cX12_closes 56 = .ok (.iconst 0, 1) := by decide +kernel
theorem dX12_closes_57 : decode cX12_closes 57 = .ok (.ireturn, 1) := by decide +kernel
theorem dX12_behind_0 : decode cX12_behind 0 = .ok (.iconst 1, 1) := by decide +kernel
theorem dX12_behind_1 : decode cX12_behind 1 = .ok (.istore 4, 2) := by decide +kernel
theorem dX12_behind_3 : decode cX12_behind 3 = .ok (.iload_n 2, 1) := by decide +kernel
theorem dX12_behind_4 : decode cX12_behind 4 = .ok (.istore 5, 2) := by decide +kernel
theorem dX12_behind_6 : decode cX12_behind 6 = .ok (.iconst 0, 1) := by decide +kernel
theorem dX12_behind_7 : decode cX12_behind 7 = .ok (.istore 6, 2) := by decide +kernel
theorem dX12_behind_9 : decode cX12_behind 9 = .ok (.iload 6, 2) := by decide +kernel
theorem dX12_behind_11 : decode cX12_behind 11 = .ok (.aload_n 0, 1) := by decide +kernel
theorem dX12_behind_12 : decode cX12_behind 12 = .ok (.getfield 35, 3) := by decide +kernel
theorem dX12_behind_15 : decode cX12_behind 15 = .ok (.iload_n 1, 1) := by decide +kernel
theorem dX12_behind_16 : decode cX12_behind 16 = .ok (.iaload, 1) := by decide +kernel
theorem dX12_behind_17 : decode cX12_behind 17 = .ok (.if_icmp .ge 66, 3) := by decide +kernel
theorem dX12_behind_20 : decode cX12_behind 20 = .ok (.iload 4, 2) := by decide +kernel
theorem dX12_behind_22 : decode cX12_behind 22 = .ok (.ifCond .le 61, 3) := by decide +kernel
theorem dX12_behind_25 : decode cX12_behind 25 = .ok (.iload 5, 2) := by decide +kernel
theorem dX12_behind_27 : decode cX12_behind 27 = .ok (.iconst 1, 1) := by decide +kernel
theorem dX12_behind_28 : decode cX12_behind 28 = .ok (.iadd, 1) := by decide +kernel
theorem dX12_behind_29 : decode cX12_behind 29 = .ok (.istore 5, 2) := by decide +kernel
theorem dX12_behind_31 : decode cX12_behind 31 = .ok (.iload_n 3, 1) := by decide +kernel
theorem dX12_behind_32 : decode cX12_behind 32 = .ok (.ifCond .eq 25, 3) := by decide +kernel
theorem dX12_behind_35 : decode cX12_behind 35 = .ok (.iload 4, 2) := by decide +kernel
theorem dX12_behind_37 : decode cX12_behind 37 = .ok (.iconst 1, 1) := by decide +kernel
theorem dX12_behind_38 : decode cX12_behind 38 = .ok (.if_icmp .ne 19, 3) := by decide +kernel
theorem dX12_behind_41 : decode cX12_behind 41 = .ok (.aload_n 0, 1) := by decide +kernel
theorem dX12_behind_42 : decode cX12_behind 42 = .ok (.iload_n 1, 1) := by decide +kernel
theorem dX12_behind_43 : decode cX12_behind 43 = .ok (.iload 5, 2) := by decide +kernel
theorem dX12_behind_45 : decode cX12_behind 45 = .ok (.iconst 1, 1) := by decide +kernel
theorem dX12_behind_46 : decode cX12_behind 46 = .ok (.invokevirtual 219, 3) := by decide +kernel
theorem dX12_behind_49 : decode cX12_behind 49 = .ok (.ifCond .eq 8, 3) := by decide +kernel
theorem dX12_behind_52 : decode cX12_behind 52 = .ok (.iload 5, 2) := by decide +kernel
theorem dX12_behind_54 : decode cX12_behind 54 = .ok (.iconst 1, 1) := by decide +kernel
theorem dX12_behind_55 : decode cX12_behind 55 = .ok (.iadd, 1) := by decide +kernel
theorem dX12_behind_56 : decode cX12_behind 56 = .ok (.ireturn, 1) := by decide +kernel
theorem dX12_behind_57 : decode cX12_behind 57 = .ok (.iload 4, 2) := by decide +kernel
theorem dX12_behind_59 : decode cX12_behind 59 = .ok (.aload_n 0, 1) := by decide +kernel
theorem dX12_behind_60 : decode cX12_behind 60 = .ok (.iload_n 1, 1) := by decide +kernel
theorem dX12_behind_61 : decode cX12_behind 61 = .ok (.iload 5, 2) := by decide +kernel
theorem dX12_behind_63 : decode cX12_behind 63 = .ok (.invokevirtual 223, 3) := by decide +kernel
theorem dX12_behind_66 : decode cX12_behind 66 = .ok (.iadd, 1) := by decide +kernel
theorem dX12_behind_67 : decode cX12_behind 67 = .ok (.aload_n 0, 1) := by decide +kernel
theorem dX12_behind_68 : decode cX12_behind 68 = .ok (.iload_n 1, 1) := by decide +kernel
theorem dX12_behind_69 : decode cX12_behind 69 = .ok (.iload 5, 2) := by decide +kernel
theorem dX12_behind_71 : decode cX12_behind 71 = .ok (.invokevirtual 226, 3) := by decide +kernel
theorem dX12_behind_74 : decode cX12_behind 74 = .ok (.isub, 1) := by decide +kernel
theorem dX12_behind_75 : decode cX12_behind 75 = .ok (.istore 4, 2) := by decide +kernel
theorem dX12_behind_77 : decode cX12_behind 77 = .ok (.iinc 6 1, 3) := by decide +kernel
theorem dX12_behind_80 : decode cX12_behind 80 = .ok (.goto (-71), 3) := by decide +kernel
theorem dX12_behind_83 : decode cX12_behind 83 = .ok (.iload 5, 2) := by decide +kernel
theorem dX12_behind_85 : decode cX12_behind 85 = .ok (.iconst 1, 1) := by decide +kernel
theorem dX12_behind_86 : decode cX12_behind 86 = .ok (.iadd, 1) := by decide +kernel
theorem dX12_behind_87 : decode cX12_behind 87 = .ok (.ireturn, 1) := by decide +kernel
theorem dX12_back_0 : decode cX12_back 0 = .ok (.iconst 1, 1) := by decide +kernel
theorem dX12_back_1 : decode cX12_back 1 = .ok (.istore_n 3, 1) := by decide +kernel
theorem dX12_back_2 : decode cX12_back 2 = .ok (.iload_n 2, 1) := by decide +kernel
theorem dX12_back_3 : decode cX12_back 3 = .ok (.istore 4, 2) := by decide +kernel
theorem dX12_back_5 : decode cX12_back 5 = .ok (.iconst 0, 1) := by decide +kernel
theorem dX12_back_6 : decode cX12_back 6 = .ok (.istore 5, 2) := by decide +kernel
theorem dX12_back_8 : decode cX12_back 8 = .ok (.iload 5, 2) := by decide +kernel
theorem dX12_back_10 : decode cX12_back 10 = .ok (.aload_n 0, 1) := by decide +kernel
theorem dX12_back_11 : decode cX12_back 11 = .ok (.getfield 35, 3) := by decide +kernel
theorem dX12_back_14 : decode cX12_back 14 = .ok (.iload_n 1, 1) := by decide +kernel
theorem dX12_back_15 : decode cX12_back 15 = .ok (.iaload, 1) := by decide +kernel
theorem dX12_back_16 : decode cX12_back 16 = .ok (.if_icmp .ge 37, 3) := by decide +kernel
theorem dX12_back_19 : decode cX12_back 19 = .ok (.iload_n 3, 1) := by decide +kernel
theorem dX12_back_20 : decode cX12_back 20 = .ok (.ifCond .le 33, 3) := by decide +kernel
theorem dX12_back_23 : decode cX12_back 23 = .ok (.iload 4, 2) := by decide +kernel
theorem dX12_back_25 : decode cX12_back 25 = .ok (.iconst 1, 1) := by decide +kernel
theorem dX12_back_26 : decode cX12_back 26 = .ok (.isub, 1) := by decide +kernel
theorem dX12_back_27 : decode cX12_back 27 = .ok (.istore 4, 2) := by decide +kernel
theorem dX12_back_29 : decode cX12_back 29 = .ok (.iload_n 3, 1) := by decide +kernel
theorem dX12_back_30 : decode cX12_back 30 = .ok (.aload_n 0, 1) := by decide +kernel
theorem dX12_back_31 : decode cX12_back 31 = .ok (.iload_n 1, 1) := by decide +kernel
theorem dX12_back_32 : decode cX12_back 32 = .ok (.iload 4, 2) := by decide +kernel
theorem dX12_back_34 : decode cX12_back 34 = .ok (.invokevirtual 226, 3) := by decide +kernel
theorem dX12_back_37 : decode cX12_back 37 = .ok (.iadd, 1) := by decide +kernel
theorem dX12_back_38 : decode cX12_back 38 = .ok (.aload_n 0, 1) := by decide +kernel
theorem dX12_back_39 : decode cX12_back 39 = .ok (.iload_n 1, 1) := by decide +kernel
theorem dX12_back_40 : decode cX12_back 40 = .ok (.iload 4, 2) := by decide +kernel
theorem dX12_back_42 : decode cX12_back 42 = .ok (.invokevirtual 223, 3) := by decide +kernel
theorem dX12_back_45 : decode cX12_back 45 = .ok (.isub, 1) := by decide +kernel
theorem dX12_back_46 : decode cX12_back 46 = .ok (.istore_n 3, 1) := by decide +kernel
theorem dX12_back_47 : decode cX12_back 47 = .ok (.iinc 5 1, 3) := by decide +kernel
theorem dX12_back_50 : decode cX12_back 50 = .ok (.goto (-42), 3) := by decide +kernel
theorem dX12_back_53 : decode cX12_back 53 = .ok (.iload 4, 2) := by decide +kernel
theorem dX12_back_55 : decode cX12_back 55 = .ok (.iconst 1, 1) := by decide +kernel
theorem dX12_back_56 : decode cX12_back 56 = .ok (.iadd, 1) := by decide +kernel
theorem dX12_back_57 : decode cX12_back 57 = .ok (.ireturn, 1) := by decide +kernel
theorem dX12_controlStep_0 : decode cX12_controlStep 0 = .ok (.aload_n 0, 1) := by decide +kernel
theorem dX12_controlStep_1 : decode cX12_controlStep 1 = .ok (.getfield 209, 3) := by decide +kernel
theorem dX12_controlStep_4 : decode cX12_controlStep 4 = .ok (.iconst 1, 1) := by decide +kernel
theorem dX12_controlStep_5 : decode cX12_controlStep 5 = .ok (.isub, 1) := by decide +kernel
theorem dX12_controlStep_6 : decode cX12_controlStep 6 = .ok (.istore 4, 2) := by decide +kernel
theorem dX12_controlStep_8 : decode cX12_controlStep 8 = .ok (.iload_n 1, 1) := by decide +kernel
theorem dX12_controlStep_9 : decode cX12_controlStep 9 = .ok (.iconst 2, 1) := by decide +kernel
theorem dX12_controlStep_10 : decode cX12_controlStep 10 = .ok (.if_icmp .eq 8, 3) := by decide +kernel
theorem dX12_controlStep_13 : decode cX12_controlStep 13 = .ok (.iload_n 1, 1) := by decide +kernel
theorem dX12_controlStep_14 : decode cX12_controlStep 14 = .ok (.iconst 3, 1) := by decide +kernel
theorem dX12_controlStep_15 : decode cX12_controlStep 15 = .ok (.if_icmp .ne 5, 3) := by decide +kernel
theorem dX12_controlStep_18 : decode cX12_controlStep 18 = .ok (.iconst 1, 1) := by decide +kernel
theorem dX12_controlStep_19 : decode cX12_controlStep 19 = .ok (.ireturn, 1) := by decide +kernel
theorem dX12_controlStep_20 : decode cX12_controlStep 20 = .ok (.iload_n 1, 1) := by decide +kernel
theorem dX12_controlStep_21 : decode cX12_controlStep 21 = .ok (.iconst 1, 1) := by decide +kernel
theorem dX12_controlStep_22 : decode cX12_controlStep 22 = .ok (.if_icmp .ne 19, 3) := by decide +kernel
theorem dX12_controlStep_25 : decode cX12_controlStep 25 = .ok (.aload_n 0, 1) := by decide +kernel
theorem dX12_controlStep_26 : decode cX12_controlStep 26 = .ok (.getfield 47, 3) := by decide +kernel
theorem dX12_controlStep_29 : decode cX12_controlStep 29 = .ok (.iload 4, 2) := by decide +kernel
theorem dX12_controlStep_31 : decode cX12_controlStep 31 = .ok (.aload_n 0, 1) := by decide +kernel
theorem dX12_controlStep_32 : decode cX12_controlStep 32 = .ok (.iload_n 2, 1) := by decide +kernel
theorem dX12_controlStep_33 : decode cX12_controlStep 33 = .ok (.iload_n 3, 1) := by decide +kernel
theorem dX12_controlStep_34 : decode cX12_controlStep 34 = .ok (.iconst 0, 1) := by decide +kernel
theorem dX12_controlStep_35 : decode cX12_controlStep 35 = .ok (.invokevirtual 229, 3) := by decide +kernel
theorem dX12_controlStep_38 : decode cX12_controlStep 38 = .ok (.iastore, 1) := by decide +kernel
theorem dX12_controlStep_39 : decode cX12_controlStep 39 = .ok (.iconst 1, 1) := by decide +kernel
theorem dX12_controlStep_40 : decode cX12_controlStep 40 = .ok (.ireturn, 1) := by decide +kernel
theorem dX12_controlStep_41 : decode cX12_controlStep 41 = .ok (.iload_n 1, 1) := by decide +kernel
theorem dX12_controlStep_42 : decode cX12_controlStep 42 = .ok (.bipush 12, 2) := by decide +kernel
theorem dX12_controlStep_44 : decode cX12_controlStep 44 = .ok (.if_icmp .ne 9, 3) := by decide +kernel
theorem dX12_controlStep_47 : decode cX12_controlStep 47 = .ok (.aload_n 0, 1) := by decide +kernel
theorem dX12_controlStep_48 : decode cX12_controlStep 48 = .ok (.iload_n 2, 1) := by decide +kernel
theorem dX12_controlStep_49 : decode cX12_controlStep 49 = .ok (.invokevirtual 233, 3) := by decide +kernel
theorem dX12_controlStep_52 : decode cX12_controlStep 52 = .ok (.ireturn, 1) := by decide +kernel
theorem dX12_controlStep_53 : decode cX12_controlStep 53 = .ok (.aload_n 0, 1) := by decide +kernel
theorem dX12_controlStep_54 : decode cX12_controlStep 54 = .ok (.getfield 185, 3) := by decide +kernel
theorem dX12_controlStep_57 : decode cX12_controlStep 57 = .ok (.sipush 1000, 3) := by decide +kernel
theorem dX12_controlStep_60 : decode cX12_controlStep 60 = .ok (.if_icmp .ne 10, 3) := by decide +kernel
theorem dX12_controlStep_63 : decode cX12_controlStep 63 = .ok (.aload_n 0, 1) := by decide +kernel
theorem dX12_controlStep_64 : decode cX12_controlStep 64 = .ok (.bipush 8, 2) := by decide +kernel
theorem dX12_controlStep_66 : decode cX12_controlStep 66 = .ok (.invokevirtual 188, 3) := by decide +kernel
theorem dX12_controlStep_69 : decode cX12_controlStep 69 = .ok (.ireturn, 1) := by decide +kernel
theorem dX12_controlStep_70 : decode cX12_controlStep 70 = .ok (.iload_n 1, 1) := by decide +kernel
theorem dX12_controlStep_71 : decode cX12_controlStep 71 = .ok (.ifCond .eq 14, 3) := by decide +kernel
theorem dX12_controlStep_74 : decode cX12_controlStep 74 = .ok (.iload_n 1, 1) := by decide +kernel
theorem dX12_controlStep_75 : decode cX12_controlStep 75 = .ok (.iconst 4, 1) := by decide +kernel
theorem dX12_controlStep_76 : decode cX12_controlStep 76 = .ok (.if_icmp .eq 9, 3) := by decide +kernel
theorem dX12_controlStep_79 : decode cX12_controlStep 79 = .ok (.iload_n 1, 1) := by decide +kernel
theorem dX12_controlStep_80 : decode cX12_controlStep 80 = .ok (.bipush 6, 2) := by decide +kernel
theorem dX12_controlStep_82 : decode cX12_controlStep 82 = .ok (.if_icmp .ne 7, 3) := by decide +kernel
theorem dX12_controlStep_85 : decode cX12_controlStep 85 = .ok (.iconst 1, 1) := by decide +kernel
theorem dX12_controlStep_86 : decode cX12_controlStep 86 = .ok (.goto 4, 3) := by decide +kernel
theorem dX12_controlStep_89 : decode cX12_controlStep 89 = .ok (.iconst 0, 1) := by decide +kernel
theorem dX12_controlStep_90 : decode cX12_controlStep 90 = .ok (.istore 5, 2) := by decide +kernel
theorem dX12_controlStep_92 : decode cX12_controlStep 92 = .ok (.iload 5, 2) := by decide +kernel
theorem dX12_controlStep_94 : decode cX12_controlStep 94 = .ok (.ifCond .eq 11, 3) := by decide +kernel
theorem dX12_controlStep_97 : decode cX12_controlStep 97 = .ok (.aload_n 0, 1) := by decide +kernel
theorem dX12_controlStep_98 : decode cX12_controlStep 98 = .ok (.getfield 178, 3) := by decide +kernel
theorem dX12_controlStep_101 : decode cX12_controlStep 101 = .ok (.iconst 1, 1) := by decide +kernel
theorem dX12_controlStep_102 : decode cX12_controlStep 102 = .ok (.if_icmp .lt 17, 3) := by decide +kernel
theorem dX12_controlStep_105 : decode cX12_controlStep 105 = .ok (.iload_n 1, 1) := by decide +kernel
theorem dX12_controlStep_106 : decode cX12_controlStep 106 = .ok (.bipush 8, 2) := by decide +kernel
theorem dX12_controlStep_108 : decode cX12_controlStep 108 = .ok (.if_icmp .ne 17, 3) := by decide +kernel
theorem dX12_controlStep_111 : decode cX12_controlStep 111 = .ok (.aload_n 0, 1) := by decide +kernel
theorem dX12_controlStep_112 : decode cX12_controlStep 112 = .ok (.getfield 178, 3) := by decide +kernel
theorem dX12_controlStep_115 : decode cX12_controlStep 115 = .ok (.iconst 2, 1) := by decide +kernel
theorem dX12_controlStep_116 : decode cX12_controlStep 116 = .ok (.if_icmp .ge 9, 3) := by decide +kernel
theorem dX12_controlStep_119 : decode cX12_controlStep 119 = .ok (.aload_n 0, 1) := by decide +kernel
theorem dX12_controlStep_120 : decode cX12_controlStep 120 = .ok (.iconst 3, 1) := by decide +kernel
theorem dX12_controlStep_121 : decode cX12_controlStep 121 = .ok (.invokevirtual 188, 3) := by decide +kernel
theorem dX12_controlStep_124 : decode cX12_controlStep 124 = .ok (.ireturn, 1) := by decide +kernel
theorem dX12_controlStep_125 : decode cX12_controlStep 125 = .ok (.iload_n 1, 1) := by decide +kernel
theorem dX12_controlStep_126 : decode cX12_controlStep 126 = .ok (.bipush 8, 2) := by decide +kernel
theorem dX12_controlStep_128 : decode cX12_controlStep 128 = .ok (.if_icmp .ne 19, 3) := by decide +kernel
theorem dX12_controlStep_131 : decode cX12_controlStep 131 = .ok (.aload_n 0, 1) := by decide +kernel
theorem dX12_controlStep_132 : decode cX12_controlStep 132 = .ok (.getfield 212, 3) := by decide +kernel
theorem dX12_controlStep_135 : decode cX12_controlStep 135 = .ok (.bipush 12, 2) := by decide +kernel
theorem dX12_controlStep_137 : decode cX12_controlStep 137 = .ok (.if_icmp .ne 10, 3) := by decide +kernel
theorem dX12_controlStep_140 : decode cX12_controlStep 140 = .ok (.aload_n 0, 1) := by decide +kernel
theorem dX12_controlStep_141 : decode cX12_controlStep 141 = .ok (.bipush 7, 2) := by decide +kernel
theorem dX12_controlStep_143 : decode cX12_controlStep 143 = .ok (.invokevirtual 188, 3) := by decide +kernel
theorem dX12_controlStep_146 : decode cX12_controlStep 146 = .ok (.ireturn, 1) := by decide +kernel
theorem dX12_controlStep_147 : decode cX12_controlStep 147 = .ok (.iload_n 1, 1) := by decide +kernel
theorem dX12_controlStep_148 : decode cX12_controlStep 148 = .ok (.bipush 10, 2) := by decide +kernel
theorem dX12_controlStep_150 : decode cX12_controlStep 150 = .ok (.if_icmp .ne 18, 3) := by decide +kernel
theorem dX12_controlStep_153 : decode cX12_controlStep 153 = .ok (.aload_n 0, 1) := by decide +kernel
theorem dX12_controlStep_154 : decode cX12_controlStep 154 = .ok (.getfield 178, 3) := by decide +kernel
theorem dX12_controlStep_157 : decode cX12_controlStep 157 = .ok (.bipush 32, 2) := by decide +kernel
theorem dX12_controlStep_159 : decode cX12_controlStep 159 = .ok (.if_icmp .ne 9, 3) := by decide +kernel
theorem dX12_controlStep_162 : decode cX12_controlStep 162 = .ok (.aload_n 0, 1) := by decide +kernel
theorem dX12_controlStep_163 : decode cX12_controlStep 163 = .ok (.iconst 4, 1) := by decide +kernel
theorem dX12_controlStep_164 : decode cX12_controlStep 164 = .ok (.invokevirtual 188, 3) := by decide +kernel
theorem dX12_controlStep_167 : decode cX12_controlStep 167 = .ok (.ireturn, 1) := by decide +kernel
theorem dX12_controlStep_168 : decode cX12_controlStep 168 = .ok (.aload_n 0, 1) := by decide +kernel
theorem dX12_controlStep_169 : decode cX12_controlStep 169 = .ok (.aload_n 0, 1) := by decide +kernel
theorem dX12_controlStep_170 : decode cX12_controlStep 170 = .ok (.getfield 185, 3) := by decide +kernel
theorem dX12_controlStep_173 : decode cX12_controlStep 173 = .ok (.iconst 1, 1) := by decide +kernel
theorem dX12_controlStep_174 : decode cX12_controlStep 174 = .ok (.iadd, 1) := by decide +kernel
theorem dX12_controlStep_175 : decode cX12_controlStep 175 = .ok (.putfield 185, 3) := by decide +kernel
theorem dX12_controlStep_178 : decode cX12_controlStep 178 = .ok (.iconst 0, 1) := by decide +kernel
theorem dX12_controlStep_179 : decode cX12_controlStep 179 = .ok (.istore 6, 2) := by decide +kernel
theorem dX12_controlStep_181 : decode cX12_controlStep 181 = .ok (.iload 5, 2) := by decide +kernel
theorem dX12_controlStep_183 : decode cX12_controlStep 183 = .ok (.ifCond .eq 32, 3) := by decide +kernel
theorem dX12_controlStep_186 : decode cX12_controlStep 186 = .ok (.aload_n 0, 1) := by decide +kernel
theorem dX12_controlStep_187 : decode cX12_controlStep 187 = .ok (.aload_n 0, 1) := by decide +kernel
theorem dX12_controlStep_188 : decode cX12_controlStep 188 = .ok (.getfield 178, 3) := by decide +kernel
theorem dX12_controlStep_191 : decode cX12_controlStep 191 = .ok (.iconst 1, 1) := by decide +kernel
theorem dX12_controlStep_192 : decode cX12_controlStep 192 = .ok (.isub, 1) := by decide +kernel
theorem dX12_controlStep_193 : decode cX12_controlStep 193 = .ok (.putfield 178, 3) := by decide +kernel
theorem dX12_controlStep_196 : decode cX12_controlStep 196 = .ok (.aload_n 0, 1) := by decide +kernel
theorem dX12_controlStep_197 : decode cX12_controlStep 197 = .ok (.getfield 19, 3) := by decide +kernel
theorem dX12_controlStep_200 : decode cX12_controlStep 200 = .ok (.aload_n 0, 1) := by decide +kernel
theorem dX12_controlStep_201 : decode cX12_controlStep 201 = .ok (.getfield 178, 3) := by decide +kernel
theorem dX12_controlStep_204 : decode cX12_controlStep 204 = .ok (.iaload, 1) := by decide +kernel
theorem dX12_controlStep_205 : decode cX12_controlStep 205 = .ok (.ifCond .ne 7, 3) := by decide +kernel
theorem dX12_controlStep_208 : decode cX12_controlStep 208 = .ok (.iconst 1, 1) := by decide +kernel
theorem dX12_controlStep_209 : decode cX12_controlStep 209 = .ok (.goto 4, 3) := by decide +kernel
theorem dX12_controlStep_212 : decode cX12_controlStep 212 = .ok (.iconst 0, 1) := by decide +kernel
theorem dX12_controlStep_213 : decode cX12_controlStep 213 = .ok (.istore 6, 2) := by decide +kernel
theorem dX12_controlStep_215 : decode cX12_controlStep 215 = .ok (.iload_n 1, 1) := by decide +kernel
theorem dX12_controlStep_216 : decode cX12_controlStep 216 = .ok (.ifCond .ne 22, 3) := by decide +kernel
theorem dX12_controlStep_219 : decode cX12_controlStep 219 = .ok (.iload 6, 2) := by decide +kernel
theorem dX12_controlStep_221 : decode cX12_controlStep 221 = .ok (.ifCond .eq 17, 3) := by decide +kernel
theorem dX12_controlStep_224 : decode cX12_controlStep 224 = .ok (.aload_n 0, 1) := by decide +kernel
theorem dX12_controlStep_225 : decode cX12_controlStep 225 = .ok (.getfield 47, 3) := by decide +kernel
theorem dX12_controlStep_228 : decode cX12_controlStep 228 = .ok (.iload 4, 2) := by decide +kernel
theorem dX12_controlStep_230 : decode cX12_controlStep 230 = .ok (.aload_n 0, 1) := by decide +kernel
theorem dX12_controlStep_231 : decode cX12_controlStep 231 = .ok (.iload_n 2, 1) := by decide +kernel
theorem dX12_controlStep_232 : decode cX12_controlStep 232 = .ok (.iload_n 3, 1) := by decide +kernel
theorem dX12_controlStep_233 : decode cX12_controlStep 233 = .ok (.iconst 1, 1) := by decide +kernel
theorem dX12_controlStep_234 : decode cX12_controlStep 234 = .ok (.invokevirtual 229, 3) := by decide +kernel
theorem dX12_controlStep_237 : decode cX12_controlStep 237 = .ok (.iastore, 1) := by decide +kernel
theorem dX12_controlStep_238 : decode cX12_controlStep 238 = .ok (.iload_n 1, 1) := by decide +kernel
theorem dX12_controlStep_239 : decode cX12_controlStep 239 = .ok (.bipush 6, 2) := by decide +kernel
theorem dX12_controlStep_241 : decode cX12_controlStep 241 = .ok (.if_icmp .ne 22, 3) := by decide +kernel
theorem dX12_controlStep_244 : decode cX12_controlStep 244 = .ok (.iload 6, 2) := by decide +kernel
theorem dX12_controlStep_246 : decode cX12_controlStep 246 = .ok (.ifCond .eq 17, 3) := by decide +kernel
theorem dX12_controlStep_249 : decode cX12_controlStep 249 = .ok (.aload_n 0, 1) := by decide +kernel
theorem dX12_controlStep_250 : decode cX12_controlStep 250 = .ok (.getfield 47, 3) := by decide +kernel
theorem dX12_controlStep_253 : decode cX12_controlStep 253 = .ok (.iload 4, 2) := by decide +kernel
theorem dX12_controlStep_255 : decode cX12_controlStep 255 = .ok (.aload_n 0, 1) := by decide +kernel
theorem dX12_controlStep_256 : decode cX12_controlStep 256 = .ok (.iload_n 2, 1) := by decide +kernel
theorem dX12_controlStep_257 : decode cX12_controlStep 257 = .ok (.iload_n 3, 1) := by decide +kernel
theorem dX12_controlStep_258 : decode cX12_controlStep 258 = .ok (.iconst 0, 1) := by decide +kernel
theorem dX12_controlStep_259 : decode cX12_controlStep 259 = .ok (.invokevirtual 229, 3) := by decide +kernel
theorem dX12_controlStep_262 : decode cX12_controlStep 262 = .ok (.iastore, 1) := by decide +kernel
theorem dX12_controlStep_263 : decode cX12_controlStep 263 = .ok (.iload_n 1, 1) := by decide +kernel
theorem dX12_controlStep_264 : decode cX12_controlStep 264 = .ok (.iconst 4, 1) := by decide +kernel
theorem dX12_controlStep_265 : decode cX12_controlStep 265 = .ok (.if_icmp .ne 8, 3) := by decide +kernel
theorem dX12_controlStep_268 : decode cX12_controlStep 268 = .ok (.iload 6, 2) := by decide +kernel
theorem dX12_controlStep_270 : decode cX12_controlStep 270 = .ok (.ifCond .ne 14, 3) := by decide +kernel
theorem dX12_controlStep_273 : decode cX12_controlStep 273 = .ok (.iload_n 1, 1) := by decide +kernel
theorem dX12_controlStep_274 : decode cX12_controlStep 274 = .ok (.iconst 5, 1) := by decide +kernel
theorem dX12_controlStep_275 : decode cX12_controlStep 275 = .ok (.if_icmp .eq 9, 3) := by decide +kernel
theorem dX12_controlStep_278 : decode cX12_controlStep 278 = .ok (.iload_n 1, 1) := by decide +kernel
theorem dX12_controlStep_279 : decode cX12_controlStep 279 = .ok (.bipush 7, 2) := by decide +kernel
theorem dX12_controlStep_281 : decode cX12_controlStep 281 = .ok (.if_icmp .ne 16, 3) := by decide +kernel
theorem dX12_controlStep_284 : decode cX12_controlStep 284 = .ok (.aload_n 0, 1) := by decide +kernel
theorem dX12_controlStep_285 : decode cX12_controlStep 285 = .ok (.getfield 47, 3) := by decide +kernel
theorem dX12_controlStep_288 : decode cX12_controlStep 288 = .ok (.iload 4, 2) := by decide +kernel
theorem dX12_controlStep_290 : decode cX12_controlStep 290 = .ok (.aload_n 0, 1) := by decide +kernel
theorem dX12_controlStep_291 : decode cX12_controlStep 291 = .ok (.iload_n 2, 1) := by decide +kernel
theorem dX12_controlStep_292 : decode cX12_controlStep 292 = .ok (.iload_n 3, 1) := by decide +kernel
theorem dX12_controlStep_293 : decode cX12_controlStep 293 = .ok (.invokevirtual 236, 3) := by decide +kernel
theorem dX12_controlStep_296 : decode cX12_controlStep 296 = .ok (.iastore, 1) := by decide +kernel
theorem dX12_controlStep_297 : decode cX12_controlStep 297 = .ok (.iload_n 1, 1) := by decide +kernel
theorem dX12_controlStep_298 : decode cX12_controlStep 298 = .ok (.bipush 8, 2) := by decide +kernel
theorem dX12_controlStep_300 : decode cX12_controlStep 300 = .ok (.if_icmp .ne 72, 3) := by decide +kernel
theorem dX12_controlStep_303 : decode cX12_controlStep 303 = .ok (.aload_n 0, 1) := by decide +kernel
theorem dX12_controlStep_304 : decode cX12_controlStep 304 = .ok (.aload_n 0, 1) := by decide +kernel
theorem dX12_controlStep_305 : decode cX12_controlStep 305 = .ok (.getfield 178, 3) := by decide +kernel
theorem dX12_controlStep_308 : decode cX12_controlStep 308 = .ok (.iconst 2, 1) := by decide +kernel
theorem dX12_controlStep_309 : decode cX12_controlStep 309 = .ok (.isub, 1) := by decide +kernel
theorem dX12_controlStep_310 : decode cX12_controlStep 310 = .ok (.putfield 178, 3) := by decide +kernel
theorem dX12_controlStep_313 : decode cX12_controlStep 313 = .ok (.aload_n 0, 1) := by decide +kernel
theorem dX12_controlStep_314 : decode cX12_controlStep 314 = .ok (.getfield 50, 3) := by decide +kernel
theorem dX12_controlStep_317 : decode cX12_controlStep 317 = .ok (.aload_n 0, 1) := by decide +kernel
theorem dX12_controlStep_318 : decode cX12_controlStep 318 = .ok (.getfield 212, 3) := by decide +kernel
theorem dX12_controlStep_321 : decode cX12_controlStep 321 = .ok (.aload_n 0, 1) := by decide +kernel
theorem dX12_controlStep_322 : decode cX12_controlStep 322 = .ok (.getfield 19, 3) := by decide +kernel
theorem dX12_controlStep_325 : decode cX12_controlStep 325 = .ok (.aload_n 0, 1) := by decide +kernel
theorem dX12_controlStep_326 : decode cX12_controlStep 326 = .ok (.getfield 178, 3) := by decide +kernel
theorem dX12_controlStep_329 : decode cX12_controlStep 329 = .ok (.iaload, 1) := by decide +kernel
theorem dX12_controlStep_330 : decode cX12_controlStep 330 = .ok (.iastore, 1) := by decide +kernel
theorem dX12_controlStep_331 : decode cX12_controlStep 331 = .ok (.aload_n 0, 1) := by decide +kernel
theorem dX12_controlStep_332 : decode cX12_controlStep 332 = .ok (.getfield 53, 3) := by decide +kernel
theorem dX12_controlStep_335 : decode cX12_controlStep 335 = .ok (.aload_n 0, 1) := by decide +kernel
theorem dX12_controlStep_336 : decode cX12_controlStep 336 = .ok (.getfield 212, 3) := by decide +kernel
theorem dX12_controlStep_339 : decode cX12_controlStep 339 = .ok (.aload_n 0, 1) := by decide +kernel
theorem dX12_controlStep_340 : decode cX12_controlStep 340 = .ok (.getfield 19, 3) := by decide +kernel
theorem dX12_controlStep_343 : decode cX12_controlStep 343 = .ok (.aload_n 0, 1) := by decide +kernel
theorem dX12_controlStep_344 : decode cX12_controlStep 344 = .ok (.getfield 178, 3) := by decide +kernel
theorem dX12_controlStep_347 : decode cX12_controlStep 347 = .ok (.iconst 1, 1) := by decide +kernel
theorem dX12_controlStep_348 : decode cX12_controlStep 348 = .ok (.iadd, 1) := by decide +kernel
theorem dX12_controlStep_349 : decode cX12_controlStep 349 = .ok (.iaload, 1) := by decide +kernel
theorem dX12_controlStep_350 : decode cX12_controlStep 350 = .ok (.iastore, 1) := by decide +kernel
theorem dX12_controlStep_351 : decode cX12_controlStep 351 = .ok (.aload_n 0, 1) := by decide +kernel
theorem dX12_controlStep_352 : decode cX12_controlStep 352 = .ok (.getfield 56, 3) := by decide +kernel
theorem dX12_controlStep_355 : decode cX12_controlStep 355 = .ok (.aload_n 0, 1) := by decide +kernel
theorem dX12_controlStep_356 : decode cX12_controlStep 356 = .ok (.getfield 212, 3) := by decide +kernel
theorem dX12_controlStep_359 : decode cX12_controlStep 359 = .ok (.iload 4, 2) := by decide +kernel
theorem dX12_controlStep_361 : decode cX12_controlStep 361 = .ok (.iastore, 1) := by decide +kernel
theorem dX12_controlStep_362 : decode cX12_controlStep 362 = .ok (.aload_n 0, 1) := by decide +kernel
theorem dX12_controlStep_363 : decode cX12_controlStep 363 = .ok (.aload_n 0, 1) := by decide +kernel
theorem dX12_controlStep_364 : decode cX12_controlStep 364 = .ok (.getfield 212, 3) := by decide +kernel
theorem dX12_controlStep_367 : decode cX12_controlStep 367 = .ok (.iconst 1, 1) := by decide +kernel
theorem dX12_controlStep_368 : decode cX12_controlStep 368 = .ok (.iadd, 1) := by decide +kernel
theorem dX12_controlStep_369 : decode cX12_controlStep 369 = .ok (.putfield 212, 3) := by decide +kernel
theorem dX12_controlStep_372 : decode cX12_controlStep 372 = .ok (.iload_n 1, 1) := by decide +kernel
theorem dX12_controlStep_373 : decode cX12_controlStep 373 = .ok (.bipush 9, 2) := by decide +kernel
theorem dX12_controlStep_375 : decode cX12_controlStep 375 = .ok (.if_icmp .ne 78, 3) := by decide +kernel
theorem dX12_controlStep_378 : decode cX12_controlStep 378 = .ok (.aload_n 0, 1) := by decide +kernel
theorem dX12_controlStep_379 : decode cX12_controlStep 379 = .ok (.getfield 53, 3) := by decide +kernel
theorem dX12_controlStep_382 : decode cX12_controlStep 382 = .ok (.aload_n 0, 1) := by decide +kernel
theorem dX12_controlStep_383 : decode cX12_controlStep 383 = .ok (.getfield 212, 3) := by decide +kernel
theorem dX12_controlStep_386 : decode cX12_controlStep 386 = .ok (.iconst 1, 1) := by decide +kernel
theorem dX12_controlStep_387 : decode cX12_controlStep 387 = .ok (.isub, 1) := by decide +kernel
theorem dX12_controlStep_388 : decode cX12_controlStep 388 = .ok (.aload_n 0, 1) := by decide +kernel
theorem dX12_controlStep_389 : decode cX12_controlStep 389 = .ok (.getfield 53, 3) := by decide +kernel
theorem dX12_controlStep_392 : decode cX12_controlStep 392 = .ok (.aload_n 0, 1) := by decide +kernel
theorem dX12_controlStep_393 : decode cX12_controlStep 393 = .ok (.getfield 212, 3) := by decide +kernel
theorem dX12_controlStep_396 : decode cX12_controlStep 396 = .ok (.iconst 1, 1) := by decide +kernel
theorem dX12_controlStep_397 : decode cX12_controlStep 397 = .ok (.isub, 1) := by decide +kernel
theorem dX12_controlStep_398 : decode cX12_controlStep 398 = .ok (.iaload, 1) := by decide +kernel
theorem dX12_controlStep_399 : decode cX12_controlStep 399 = .ok (.iconst 1, 1) := by decide +kernel
theorem dX12_controlStep_400 : decode cX12_controlStep 400 = .ok (.iadd, 1) := by decide +kernel
theorem dX12_controlStep_401 : decode cX12_controlStep 401 = .ok (.iastore, 1) := by decide +kernel
theorem dX12_controlStep_402 : decode cX12_controlStep 402 = .ok (.aload_n 0, 1) := by decide +kernel
theorem dX12_controlStep_403 : decode cX12_controlStep 403 = .ok (.getfield 53, 3) := by decide +kernel
theorem dX12_controlStep_406 : decode cX12_controlStep 406 = .ok (.aload_n 0, 1) := by decide +kernel
theorem dX12_controlStep_407 : decode cX12_controlStep 407 = .ok (.getfield 212, 3) := by decide +kernel
theorem dX12_controlStep_410 : decode cX12_controlStep 410 = .ok (.iconst 1, 1) := by decide +kernel
theorem dX12_controlStep_411 : decode cX12_controlStep 411 = .ok (.isub, 1) := by decide +kernel
theorem dX12_controlStep_412 : decode cX12_controlStep 412 = .ok (.iaload, 1) := by decide +kernel
theorem dX12_controlStep_413 : decode cX12_controlStep 413 = .ok (.aload_n 0, 1) := by decide +kernel
theorem dX12_controlStep_414 : decode cX12_controlStep 414 = .ok (.getfield 50, 3) := by decide +kernel
theorem dX12_controlStep_417 : decode cX12_controlStep 417 = .ok (.aload_n 0, 1) := by decide +kernel
theorem dX12_controlStep_418 : decode cX12_controlStep 418 = .ok (.getfield 212, 3) := by decide +kernel
theorem dX12_controlStep_421 : decode cX12_controlStep 421 = .ok (.iconst 1, 1) := by decide +kernel
theorem dX12_controlStep_422 : decode cX12_controlStep 422 = .ok (.isub, 1) := by decide +kernel
theorem dX12_controlStep_423 : decode cX12_controlStep 423 = .ok (.iaload, 1) := by decide +kernel
theorem dX12_controlStep_424 : decode cX12_controlStep 424 = .ok (.if_icmp .ne 16, 3) := by decide +kernel
theorem dX12_controlStep_427 : decode cX12_controlStep 427 = .ok (.aload_n 0, 1) := by decide +kernel
theorem dX12_controlStep_428 : decode cX12_controlStep 428 = .ok (.aload_n 0, 1) := by decide +kernel
theorem dX12_controlStep_429 : decode cX12_controlStep 429 = .ok (.getfield 212, 3) := by decide +kernel
theorem dX12_controlStep_432 : decode cX12_controlStep 432 = .ok (.iconst 1, 1) := by decide +kernel
theorem dX12_controlStep_433 : decode cX12_controlStep 433 = .ok (.isub, 1) := by decide +kernel
theorem dX12_controlStep_434 : decode cX12_controlStep 434 = .ok (.putfield 212, 3) := by decide +kernel
theorem dX12_controlStep_437 : decode cX12_controlStep 437 = .ok (.goto 16, 3) := by decide +kernel
theorem dX12_controlStep_440 : decode cX12_controlStep 440 = .ok (.aload_n 0, 1) := by decide +kernel
theorem dX12_controlStep_441 : decode cX12_controlStep 441 = .ok (.getfield 47, 3) := by decide +kernel
theorem dX12_controlStep_444 : decode cX12_controlStep 444 = .ok (.iload 4, 2) := by decide +kernel
theorem dX12_controlStep_446 : decode cX12_controlStep 446 = .ok (.aload_n 0, 1) := by decide +kernel
theorem dX12_controlStep_447 : decode cX12_controlStep 447 = .ok (.iload_n 2, 1) := by decide +kernel
theorem dX12_controlStep_448 : decode cX12_controlStep 448 = .ok (.iload_n 3, 1) := by decide +kernel
theorem dX12_controlStep_449 : decode cX12_controlStep 449 = .ok (.invokevirtual 236, 3) := by decide +kernel
theorem dX12_controlStep_452 : decode cX12_controlStep 452 = .ok (.iastore, 1) := by decide +kernel
theorem dX12_controlStep_453 : decode cX12_controlStep 453 = .ok (.iload_n 1, 1) := by decide +kernel
theorem dX12_controlStep_454 : decode cX12_controlStep 454 = .ok (.bipush 10, 2) := by decide +kernel
theorem dX12_controlStep_456 : decode cX12_controlStep 456 = .ok (.if_icmp .ne 19, 3) := by decide +kernel
theorem dX12_controlStep_459 : decode cX12_controlStep 459 = .ok (.aload_n 0, 1) := by decide +kernel
theorem dX12_controlStep_460 : decode cX12_controlStep 460 = .ok (.aload_n 0, 1) := by decide +kernel
theorem dX12_controlStep_461 : decode cX12_controlStep 461 = .ok (.getfield 53, 3) := by decide +kernel
theorem dX12_controlStep_464 : decode cX12_controlStep 464 = .ok (.aload_n 0, 1) := by decide +kernel
theorem dX12_controlStep_465 : decode cX12_controlStep 465 = .ok (.getfield 212, 3) := by decide +kernel
theorem dX12_controlStep_468 : decode cX12_controlStep 468 = .ok (.iconst 1, 1) := by decide +kernel
theorem dX12_controlStep_469 : decode cX12_controlStep 469 = .ok (.isub, 1) := by decide +kernel
theorem dX12_controlStep_470 : decode cX12_controlStep 470 = .ok (.iaload, 1) := by decide +kernel
theorem dX12_controlStep_471 : decode cX12_controlStep 471 = .ok (.i2l, 1) := by decide +kernel
theorem dX12_controlStep_472 : decode cX12_controlStep 472 = .ok (.invokevirtual 194, 3) := by decide +kernel
theorem dX12_controlStep_475 : decode cX12_controlStep 475 = .ok (.iload_n 1, 1) := by decide +kernel
theorem dX12_controlStep_476 : decode cX12_controlStep 476 = .ok (.bipush 11, 2) := by decide +kernel
theorem dX12_controlStep_478 : decode cX12_controlStep 478 = .ok (.if_icmp .ne 7, 3) := by decide +kernel
theorem dX12_controlStep_481 : decode cX12_controlStep 481 = .ok (.aload_n 0, 1) := by decide +kernel
theorem dX12_controlStep_482 : decode cX12_controlStep 482 = .ok (.invokevirtual 239, 3) := by decide +kernel
theorem dX12_controlStep_485 : decode cX12_controlStep 485 = .ok (.iconst 1, 1) := by decide +kernel
theorem dX12_controlStep_486 : decode cX12_controlStep 486 = .ok (.ireturn, 1) := by decide +kernel
theorem dX12_go_0 : decode cX12_go 0 = .ok (.iconst 1, 1) := by decide +kernel
theorem dX12_go_1 : decode cX12_go 1 = .ok (.istore_n 1, 1) := by decide +kernel
theorem dX12_go_2 : decode cX12_go 2 = .ok (.iconst 0, 1) := by decide +kernel
theorem dX12_go_3 : decode cX12_go 3 = .ok (.istore_n 2, 1) := by decide +kernel
theorem dX12_go_4 : decode cX12_go 4 = .ok (.iload_n 2, 1) := by decide +kernel
theorem dX12_go_5 : decode cX12_go 5 = .ok (.ldc 242, 2) := by decide +kernel
theorem dX12_go_7 : decode cX12_go 7 = .ok (.if_icmp .ge 193, 3) := by decide +kernel
theorem dX12_go_10 : decode cX12_go 10 = .ok (.iload_n 1, 1) := by decide +kernel
theorem dX12_go_11 : decode cX12_go 11 = .ok (.ifCond .eq 189, 3) := by decide +kernel
theorem dX12_go_14 : decode cX12_go 14 = .ok (.aload_n 0, 1) := by decide +kernel
theorem dX12_go_15 : decode cX12_go 15 = .ok (.getfield 209, 3) := by decide +kernel
theorem dX12_go_18 : decode cX12_go 18 = .ok (.ifCond .le 182, 3) := by decide +kernel
theorem dX12_go_21 : decode cX12_go 21 = .ok (.aload_n 0, 1) := by decide +kernel
theorem dX12_go_22 : decode cX12_go 22 = .ok (.getfield 209, 3) := by decide +kernel
theorem dX12_go_25 : decode cX12_go 25 = .ok (.iconst 1, 1) := by decide +kernel
theorem dX12_go_26 : decode cX12_go 26 = .ok (.isub, 1) := by decide +kernel
theorem dX12_go_27 : decode cX12_go 27 = .ok (.istore_n 3, 1) := by decide +kernel
theorem dX12_go_28 : decode cX12_go 28 = .ok (.aload_n 0, 1) := by decide +kernel
theorem dX12_go_29 : decode cX12_go 29 = .ok (.getfield 44, 3) := by decide +kernel
theorem dX12_go_32 : decode cX12_go 32 = .ok (.iload_n 3, 1) := by decide +kernel
theorem dX12_go_33 : decode cX12_go 33 = .ok (.iaload, 1) := by decide +kernel
theorem dX12_go_34 : decode cX12_go 34 = .ok (.istore 4, 2) := by decide +kernel
theorem dX12_go_36 : decode cX12_go 36 = .ok (.aload_n 0, 1) := by decide +kernel
theorem dX12_go_37 : decode cX12_go 37 = .ok (.getfield 47, 3) := by decide +kernel
theorem dX12_go_40 : decode cX12_go 40 = .ok (.iload_n 3, 1) := by decide +kernel
theorem dX12_go_41 : decode cX12_go 41 = .ok (.iaload, 1) := by decide +kernel
theorem dX12_go_42 : decode cX12_go 42 = .ok (.istore 5, 2) := by decide +kernel
theorem dX12_go_44 : decode cX12_go 44 = .ok (.iload 5, 2) := by decide +kernel
theorem dX12_go_46 : decode cX12_go 46 = .ok (.aload_n 0, 1) := by decide +kernel
theorem dX12_go_47 : decode cX12_go 47 = .ok (.getfield 35, 3) := by decide +kernel
theorem dX12_go_50 : decode cX12_go 50 = .ok (.iload 4, 2) := by decide +kernel
theorem dX12_go_52 : decode cX12_go 52 = .ok (.iaload, 1) := by decide +kernel
theorem dX12_go_53 : decode cX12_go 53 = .ok (.if_icmp .ne 49, 3) := by decide +kernel
theorem dX12_go_56 : decode cX12_go 56 = .ok (.aload_n 0, 1) := by decide +kernel
theorem dX12_go_57 : decode cX12_go 57 = .ok (.getfield 185, 3) := by decide +kernel
theorem dX12_go_60 : decode cX12_go 60 = .ok (.sipush 1000, 3) := by decide +kernel
theorem dX12_go_63 : decode cX12_go 63 = .ok (.if_icmp .lt 12, 3) := by decide +kernel
theorem dX12_go_66 : decode cX12_go 66 = .ok (.aload_n 0, 1) := by decide +kernel
theorem dX12_go_67 : decode cX12_go 67 = .ok (.bipush 8, 2) := by decide +kernel
theorem dX12_go_69 : decode cX12_go 69 = .ok (.invokevirtual 188, 3) := by decide +kernel
theorem dX12_go_72 : decode cX12_go 72 = .ok (.ifCond .eq 7, 3) := by decide +kernel
theorem dX12_go_75 : decode cX12_go 75 = .ok (.iconst 1, 1) := by decide +kernel
theorem dX12_go_76 : decode cX12_go 76 = .ok (.goto 4, 3) := by decide +kernel
theorem dX12_go_79 : decode cX12_go 79 = .ok (.iconst 0, 1) := by decide +kernel
theorem dX12_go_80 : decode cX12_go 80 = .ok (.istore_n 1, 1) := by decide +kernel
theorem dX12_go_81 : decode cX12_go 81 = .ok (.iload_n 1, 1) := by decide +kernel
theorem dX12_go_82 : decode cX12_go 82 = .ok (.ifCond .eq 112, 3) := by decide +kernel
theorem dX12_go_85 : decode cX12_go 85 = .ok (.aload_n 0, 1) := by decide +kernel
theorem dX12_go_86 : decode cX12_go 86 = .ok (.aload_n 0, 1) := by decide +kernel
theorem dX12_go_87 : decode cX12_go 87 = .ok (.getfield 185, 3) := by decide +kernel
theorem dX12_go_90 : decode cX12_go 90 = .ok (.iconst 1, 1) := by decide +kernel
theorem dX12_go_91 : decode cX12_go 91 = .ok (.iadd, 1) := by decide +kernel
theorem dX12_go_92 : decode cX12_go 92 = .ok (.putfield 185, 3) := by decide +kernel
theorem dX12_go_95 : decode cX12_go 95 = .ok (.aload_n 0, 1) := by decide +kernel
theorem dX12_go_96 : decode cX12_go 96 = .ok (.invokevirtual 239, 3) := by decide +kernel
theorem dX12_go_99 : decode cX12_go 99 = .ok (.goto 95, 3) := by decide +kernel
theorem dX12_go_102 : decode cX12_go 102 = .ok (.aload_n 0, 1) := by decide +kernel
theorem dX12_go_103 : decode cX12_go 103 = .ok (.getfield 47, 3) := by decide +kernel
theorem dX12_go_106 : decode cX12_go 106 = .ok (.iload_n 3, 1) := by decide +kernel
theorem dX12_go_107 : decode cX12_go 107 = .ok (.iload 5, 2) := by decide +kernel
theorem dX12_go_109 : decode cX12_go 109 = .ok (.iconst 1, 1) := by decide +kernel
theorem dX12_go_110 : decode cX12_go 110 = .ok (.iadd, 1) := by decide +kernel
theorem dX12_go_111 : decode cX12_go 111 = .ok (.iastore, 1) := by decide +kernel
theorem dX12_go_112 : decode cX12_go 112 = .ok (.aload_n 0, 1) := by decide +kernel
theorem dX12_go_113 : decode cX12_go 113 = .ok (.iload 4, 2) := by decide +kernel
theorem dX12_go_115 : decode cX12_go 115 = .ok (.iload 5, 2) := by decide +kernel
theorem dX12_go_117 : decode cX12_go 117 = .ok (.invokevirtual 215, 3) := by decide +kernel
theorem dX12_go_120 : decode cX12_go 120 = .ok (.istore 6, 2) := by decide +kernel
theorem dX12_go_122 : decode cX12_go 122 = .ok (.aload_n 0, 1) := by decide +kernel
theorem dX12_go_123 : decode cX12_go 123 = .ok (.getfield 41, 3) := by decide +kernel
theorem dX12_go_126 : decode cX12_go 126 = .ok (.aload_n 0, 1) := by decide +kernel
theorem dX12_go_127 : decode cX12_go 127 = .ok (.getfield 32, 3) := by decide +kernel
theorem dX12_go_130 : decode cX12_go 130 = .ok (.iload 4, 2) := by decide +kernel
theorem dX12_go_132 : decode cX12_go 132 = .ok (.iaload, 1) := by decide +kernel
theorem dX12_go_133 : decode cX12_go 133 = .ok (.iload 5, 2) := by decide +kernel
theorem dX12_go_135 : decode cX12_go 135 = .ok (.iadd, 1) := by decide +kernel
theorem dX12_go_136 : decode cX12_go 136 = .ok (.iaload, 1) := by decide +kernel
theorem dX12_go_137 : decode cX12_go 137 = .ok (.istore 7, 2) := by decide +kernel
theorem dX12_go_139 : decode cX12_go 139 = .ok (.iload 6, 2) := by decide +kernel
theorem dX12_go_141 : decode cX12_go 141 = .ok (.ifCond .ne 12, 3) := by decide +kernel
theorem dX12_go_144 : decode cX12_go 144 = .ok (.aload_n 0, 1) := by decide +kernel
theorem dX12_go_145 : decode cX12_go 145 = .ok (.iload 7, 2) := by decide +kernel
theorem dX12_go_147 : decode cX12_go 147 = .ok (.invokevirtual 243, 3) := by decide +kernel
theorem dX12_go_150 : decode cX12_go 150 = .ok (.goto 43, 3) := by decide +kernel
theorem dX12_go_153 : decode cX12_go 153 = .ok (.iload 6, 2) := by decide +kernel
theorem dX12_go_155 : decode cX12_go 155 = .ok (.iconst 1, 1) := by decide +kernel
theorem dX12_go_156 : decode cX12_go 156 = .ok (.if_icmp .ne 12, 3) := by decide +kernel
theorem dX12_go_159 : decode cX12_go 159 = .ok (.aload_n 0, 1) := by decide +kernel
theorem dX12_go_160 : decode cX12_go 160 = .ok (.iload 7, 2) := by decide +kernel
theorem dX12_go_162 : decode cX12_go 162 = .ok (.invokevirtual 246, 3) := by decide +kernel
theorem dX12_go_165 : decode cX12_go 165 = .ok (.goto 28, 3) := by decide +kernel
theorem dX12_go_168 : decode cX12_go 168 = .ok (.iload 6, 2) := by decide +kernel
theorem dX12_go_170 : decode cX12_go 170 = .ok (.iconst 2, 1) := by decide +kernel
theorem dX12_go_171 : decode cX12_go 171 = .ok (.if_icmp .ne 16, 3) := by decide +kernel
theorem dX12_go_174 : decode cX12_go 174 = .ok (.aload_n 0, 1) := by decide +kernel
theorem dX12_go_175 : decode cX12_go 175 = .ok (.iload 7, 2) := by decide +kernel
theorem dX12_go_177 : decode cX12_go 177 = .ok (.iload 4, 2) := by decide +kernel
theorem dX12_go_179 : decode cX12_go 179 = .ok (.iload 5, 2) := by decide +kernel
theorem dX12_go_181 : decode cX12_go 181 = .ok (.invokevirtual 249, 3) := by decide +kernel
theorem dX12_go_184 : decode cX12_go 184 = .ok (.goto 9, 3) := by decide +kernel
theorem dX12_go_187 : decode cX12_go 187 = .ok (.aload_n 0, 1) := by decide +kernel
theorem dX12_go_188 : decode cX12_go 188 = .ok (.iload 7, 2) := by decide +kernel
theorem dX12_go_190 : decode cX12_go 190 = .ok (.invokevirtual 233, 3) := by decide +kernel
theorem dX12_go_193 : decode cX12_go 193 = .ok (.istore_n 1, 1) := by decide +kernel
theorem dX12_go_194 : decode cX12_go 194 = .ok (.iinc 2 1, 3) := by decide +kernel
theorem dX12_go_197 : decode cX12_go 197 = .ok (.goto (-193), 3) := by decide +kernel
theorem dX12_go_200 : decode cX12_go 200 = .ok (.iload_n 1, 1) := by decide +kernel
theorem dX12_go_201 : decode cX12_go 201 = .ok (.ireturn, 1) := by decide +kernel
theorem dX12_balanced_0 : decode cX12_balanced 0 = .ok (.iconst 0, 1) := by decide +kernel
theorem dX12_balanced_1 : decode cX12_balanced 1 = .ok (.istore_n 3, 1) := by decide +kernel
theorem dX12_balanced_2 : decode cX12_balanced 2 = .ok (.iconst 0, 1) := by decide +kernel
theorem dX12_balanced_3 : decode cX12_balanced 3 = .ok (.istore 4, 2) := by decide +kernel
theorem dX12_balanced_5 : decode cX12_balanced 5 = .ok (.iload_n 1, 1) := by decide +kernel
theorem dX12_balanced_6 : decode cX12_balanced 6 = .ok (.istore 5, 2) := by decide +kernel
theorem dX12_balanced_8 : decode cX12_balanced 8 = .ok (.iload 5, 2) := by decide +kernel
theorem dX12_balanced_10 : decode cX12_balanced 10 = .ok (.iload_n 1, 1) := by decide +kernel
theorem dX12_balanced_11 : decode cX12_balanced 11 = .ok (.iload_n 2, 1) := by decide +kernel
theorem dX12_balanced_12 : decode cX12_balanced 12 = .ok (.iadd, 1) := by decide +kernel
theorem dX12_balanced_13 : decode cX12_balanced 13 = .ok (.if_icmp .ge 288, 3) := by decide +kernel
theorem dX12_balanced_16 : decode cX12_balanced 16 = .ok (.aload_n 0, 1) := by decide +kernel
theorem dX12_balanced_17 : decode cX12_balanced 17 = .ok (.getfield 38, 3) := by decide +kernel
theorem dX12_balanced_20 : decode cX12_balanced 20 = .ok (.iload 5, 2) := by decide +kernel
theorem dX12_balanced_22 : decode cX12_balanced 22 = .ok (.iaload, 1) := by decide +kernel
theorem dX12_balanced_23 : decode cX12_balanced 23 = .ok (.iconst 2, 1) := by decide +kernel
theorem dX12_balanced_24 : decode cX12_balanced 24 = .ok (.if_icmp .ne 271, 3) := by decide +kernel
theorem dX12_balanced_27 : decode cX12_balanced 27 = .ok (.aload_n 0, 1) := by decide +kernel
theorem dX12_balanced_28 : decode cX12_balanced 28 = .ok (.getfield 41, 3) := by decide +kernel
theorem dX12_balanced_31 : decode cX12_balanced 31 = .ok (.iload 5, 2) := by decide +kernel
theorem dX12_balanced_33 : decode cX12_balanced 33 = .ok (.iaload, 1) := by decide +kernel
theorem dX12_balanced_34 : decode cX12_balanced 34 = .ok (.istore 6, 2) := by decide +kernel
theorem dX12_balanced_36 : decode cX12_balanced 36 = .ok (.iload_n 3, 1) := by decide +kernel
theorem dX12_balanced_37 : decode cX12_balanced 37 = .ok (.ifCond .le 14, 3) := by decide +kernel
theorem dX12_balanced_40 : decode cX12_balanced 40 = .ok (.aload_n 0, 1) := by decide +kernel
theorem dX12_balanced_41 : decode cX12_balanced 41 = .ok (.getfield 59, 3) := by decide +kernel
theorem dX12_balanced_44 : decode cX12_balanced 44 = .ok (.iload_n 3, 1) := by decide +kernel
theorem dX12_balanced_45 : decode cX12_balanced 45 = .ok (.iconst 1, 1) := by decide +kernel
theorem dX12_balanced_46 : decode cX12_balanced 46 = .ok (.isub, 1) := by decide +kernel
theorem dX12_balanced_47 : decode cX12_balanced 47 = .ok (.iaload, 1) := by decide +kernel
theorem dX12_balanced_48 : decode cX12_balanced 48 = .ok (.goto 4, 3) := by decide +kernel
theorem dX12_balanced_51 : decode cX12_balanced 51 = .ok (.iconst (-1), 1) := by decide +kernel
theorem dX12_balanced_52 : decode cX12_balanced 52 = .ok (.istore 7, 2) := by decide +kernel
theorem dX12_balanced_54 : decode cX12_balanced 54 = .ok (.iload 6, 2) := by decide +kernel
theorem dX12_balanced_56 : decode cX12_balanced 56 = .ok (.ifCond .eq 16, 3) := by decide +kernel
theorem dX12_balanced_59 : decode cX12_balanced 59 = .ok (.iload 6, 2) := by decide +kernel
theorem dX12_balanced_61 : decode cX12_balanced 61 = .ok (.iconst 3, 1) := by decide +kernel
theorem dX12_balanced_62 : decode cX12_balanced 62 = .ok (.if_icmp .eq 10, 3) := by decide +kernel
theorem dX12_balanced_65 : decode cX12_balanced 65 = .ok (.iload 6, 2) := by decide +kernel
theorem dX12_balanced_67 : decode cX12_balanced 67 = .ok (.bipush 8, 2) := by decide +kernel
theorem dX12_balanced_69 : decode cX12_balanced 69 = .ok (.if_icmp .ne 39, 3) := by decide +kernel
theorem dX12_balanced_72 : decode cX12_balanced 72 = .ok (.iload_n 3, 1) := by decide +kernel
theorem dX12_balanced_73 : decode cX12_balanced 73 = .ok (.bipush 8, 2) := by decide +kernel
theorem dX12_balanced_75 : decode cX12_balanced 75 = .ok (.if_icmp .ne 5, 3) := by decide +kernel
theorem dX12_balanced_78 : decode cX12_balanced 78 = .ok (.iconst 0, 1) := by decide +kernel
theorem dX12_balanced_79 : decode cX12_balanced 79 = .ok (.ireturn, 1) := by decide +kernel
theorem dX12_balanced_80 : decode cX12_balanced 80 = .ok (.aload_n 0, 1) := by decide +kernel
theorem dX12_balanced_81 : decode cX12_balanced 81 = .ok (.getfield 59, 3) := by decide +kernel
theorem dX12_balanced_84 : decode cX12_balanced 84 = .ok (.iload_n 3, 1) := by decide +kernel
theorem dX12_balanced_85 : decode cX12_balanced 85 = .ok (.iload 6, 2) := by decide +kernel
theorem dX12_balanced_87 : decode cX12_balanced 87 = .ok (.iastore, 1) := by decide +kernel
theorem dX12_balanced_88 : decode cX12_balanced 88 = .ok (.iload_n 3, 1) := by decide +kernel
theorem dX12_balanced_89 : decode cX12_balanced 89 = .ok (.iconst 1, 1) := by decide +kernel
theorem dX12_balanced_90 : decode cX12_balanced 90 = .ok (.iadd, 1) := by decide +kernel
theorem dX12_balanced_91 : decode cX12_balanced 91 = .ok (.istore_n 3, 1) := by decide +kernel
theorem dX12_balanced_92 : decode cX12_balanced 92 = .ok (.iload 6, 2) := by decide +kernel
theorem dX12_balanced_94 : decode cX12_balanced 94 = .ok (.bipush 8, 2) := by decide +kernel
theorem dX12_balanced_96 : decode cX12_balanced 96 = .ok (.if_icmp .ne 199, 3) := by decide +kernel
theorem dX12_balanced_99 : decode cX12_balanced 99 = .ok (.iload 4, 2) := by decide +kernel
theorem dX12_balanced_101 : decode cX12_balanced 101 = .ok (.iconst 1, 1) := by decide +kernel
theorem dX12_balanced_102 : decode cX12_balanced 102 = .ok (.iadd, 1) := by decide +kernel
theorem dX12_balanced_103 : decode cX12_balanced 103 = .ok (.istore 4, 2) := by decide +kernel
theorem dX12_balanced_105 : decode cX12_balanced 105 = .ok (.goto 190, 3) := by decide +kernel
theorem dX12_balanced_108 : decode cX12_balanced 108 = .ok (.iload 6, 2) := by decide +kernel
theorem dX12_balanced_110 : decode cX12_balanced 110 = .ok (.iconst 1, 1) := by decide +kernel
theorem dX12_balanced_111 : decode cX12_balanced 111 = .ok (.if_icmp .ne 22, 3) := by decide +kernel
theorem dX12_balanced_114 : decode cX12_balanced 114 = .ok (.iload 7, 2) := by decide +kernel
theorem dX12_balanced_116 : decode cX12_balanced 116 = .ok (.ifCond .eq 5, 3) := by decide +kernel
theorem dX12_balanced_119 : decode cX12_balanced 119 = .ok (.iconst 0, 1) := by decide +kernel
theorem dX12_balanced_120 : decode cX12_balanced 120 = .ok (.ireturn, 1) := by decide +kernel
theorem dX12_balanced_121 : decode cX12_balanced 121 = .ok (.aload_n 0, 1) := by decide +kernel
theorem dX12_balanced_122 : decode cX12_balanced 122 = .ok (.getfield 59, 3) := by decide +kernel
theorem dX12_balanced_125 : decode cX12_balanced 125 = .ok (.iload_n 3, 1) := by decide +kernel
theorem dX12_balanced_126 : decode cX12_balanced 126 = .ok (.iconst 1, 1) := by decide +kernel
theorem dX12_balanced_127 : decode cX12_balanced 127 = .ok (.isub, 1) := by decide +kernel
theorem dX12_balanced_128 : decode cX12_balanced 128 = .ok (.iconst 1, 1) := by decide +kernel
theorem dX12_balanced_129 : decode cX12_balanced 129 = .ok (.iastore, 1) := by decide +kernel
theorem dX12_balanced_130 : decode cX12_balanced 130 = .ok (.goto 165, 3) := by decide +kernel
theorem dX12_balanced_133 : decode cX12_balanced 133 = .ok (.iload 6, 2) := by decide +kernel
theorem dX12_balanced_135 : decode cX12_balanced 135 = .ok (.bipush 6, 2) := by decide +kernel
theorem dX12_balanced_137 : decode cX12_balanced 137 = .ok (.if_icmp .ne 24, 3) := by decide +kernel
theorem dX12_balanced_140 : decode cX12_balanced 140 = .ok (.iload 7, 2) := by decide +kernel
theorem dX12_balanced_142 : decode cX12_balanced 142 = .ok (.iconst 3, 1) := by decide +kernel
theorem dX12_balanced_143 : decode cX12_balanced 143 = .ok (.if_icmp .eq 5, 3) := by decide +kernel
theorem dX12_balanced_146 : decode cX12_balanced 146 = .ok (.iconst 0, 1) := by decide +kernel
theorem dX12_balanced_147 : decode cX12_balanced 147 = .ok (.ireturn, 1) := by decide +kernel
theorem dX12_balanced_148 : decode cX12_balanced 148 = .ok (.aload_n 0, 1) := by decide +kernel
theorem dX12_balanced_149 : decode cX12_balanced 149 = .ok (.getfield 59, 3) := by decide +kernel
theorem dX12_balanced_152 : decode cX12_balanced 152 = .ok (.iload_n 3, 1) := by decide +kernel
theorem dX12_balanced_153 : decode cX12_balanced 153 = .ok (.iconst 1, 1) := by decide +kernel
theorem dX12_balanced_154 : decode cX12_balanced 154 = .ok (.isub, 1) := by decide +kernel
theorem dX12_balanced_155 : decode cX12_balanced 155 = .ok (.bipush 6, 2) := by decide +kernel
theorem dX12_balanced_157 : decode cX12_balanced 157 = .ok (.iastore, 1) := by decide +kernel
theorem dX12_balanced_158 : decode cX12_balanced 158 = .ok (.goto 137, 3) := by decide +kernel
theorem dX12_balanced_161 : decode cX12_balanced 161 = .ok (.iload 6, 2) := by decide +kernel
theorem dX12_balanced_163 : decode cX12_balanced 163 = .ok (.bipush 10, 2) := by decide +kernel
theorem dX12_balanced_165 : decode cX12_balanced 165 = .ok (.if_icmp .ne 10, 3) := by decide +kernel
theorem dX12_balanced_168 : decode cX12_balanced 168 = .ok (.iload 4, 2) := by decide +kernel
theorem dX12_balanced_170 : decode cX12_balanced 170 = .ok (.ifCond .ne 125, 3) := by decide +kernel
theorem dX12_balanced_173 : decode cX12_balanced 173 = .ok (.iconst 0, 1) := by decide +kernel
theorem dX12_balanced_174 : decode cX12_balanced 174 = .ok (.ireturn, 1) := by decide +kernel
theorem dX12_balanced_175 : decode cX12_balanced 175 = .ok (.iload 6, 2) := by decide +kernel
theorem dX12_balanced_177 : decode cX12_balanced 177 = .ok (.bipush 11, 2) := by decide +kernel
theorem dX12_balanced_179 : decode cX12_balanced 179 = .ok (.if_icmp .eq 116, 3) := by decide +kernel
theorem dX12_balanced_182 : decode cX12_balanced 182 = .ok (.iload 6, 2) := by decide +kernel
theorem dX12_balanced_184 : decode cX12_balanced 184 = .ok (.bipush 12, 2) := by decide +kernel
theorem dX12_balanced_186 : decode cX12_balanced 186 = .ok (.if_icmp .eq 109, 3) := by decide +kernel
theorem dX12_balanced_189 : decode cX12_balanced 189 = .ok (.iload 6, 2) := by decide +kernel
theorem dX12_balanced_191 : decode cX12_balanced 191 = .ok (.iconst 2, 1) := by decide +kernel
theorem dX12_balanced_192 : decode cX12_balanced 192 = .ok (.if_icmp .ne 22, 3) := by decide +kernel
theorem dX12_balanced_195 : decode cX12_balanced 195 = .ok (.iload 7, 2) := by decide +kernel
theorem dX12_balanced_197 : decode cX12_balanced 197 = .ok (.ifCond .eq 9, 3) := by decide +kernel
theorem dX12_balanced_200 : decode cX12_balanced 200 = .ok (.iload 7, 2) := by decide +kernel
theorem dX12_balanced_202 : decode cX12_balanced 202 = .ok (.iconst 1, 1) := by decide +kernel
theorem dX12_balanced_203 : decode cX12_balanced 203 = .ok (.if_icmp .ne 7, 3) := by decide +kernel
theorem dX12_balanced_206 : decode cX12_balanced 206 = .ok (.iconst 1, 1) := by decide +kernel
theorem dX12_balanced_207 : decode cX12_balanced 207 = .ok (.goto 62, 3) := by decide +kernel
theorem dX12_balanced_210 : decode cX12_balanced 210 = .ok (.iconst 0, 1) := by decide +kernel
theorem dX12_balanced_211 : decode cX12_balanced 211 = .ok (.goto 58, 3) := by decide +kernel
theorem dX12_balanced_214 : decode cX12_balanced 214 = .ok (.iload 6, 2) := by decide +kernel
theorem dX12_balanced_216 : decode cX12_balanced 216 = .ok (.bipush 7, 2) := by decide +kernel
theorem dX12_balanced_218 : decode cX12_balanced 218 = .ok (.if_icmp .ne 18, 3) := by decide +kernel
theorem dX12_balanced_221 : decode cX12_balanced 221 = .ok (.iload 7, 2) := by decide +kernel
theorem dX12_balanced_223 : decode cX12_balanced 223 = .ok (.bipush 6, 2) := by decide +kernel
theorem dX12_balanced_225 : decode cX12_balanced 225 = .ok (.if_icmp .ne 7, 3) := by decide +kernel
theorem dX12_balanced_228 : decode cX12_balanced 228 = .ok (.iconst 1, 1) := by decide +kernel
theorem dX12_balanced_229 : decode cX12_balanced 229 = .ok (.goto 40, 3) := by decide +kernel
theorem dX12_balanced_232 : decode cX12_balanced 232 = .ok (.iconst 0, 1) := by decide +kernel
theorem dX12_balanced_233 : decode cX12_balanced 233 = .ok (.goto 36, 3) := by decide +kernel
theorem dX12_balanced_236 : decode cX12_balanced 236 = .ok (.iload 6, 2) := by decide +kernel
theorem dX12_balanced_238 : decode cX12_balanced 238 = .ok (.bipush 9, 2) := by decide +kernel
theorem dX12_balanced_240 : decode cX12_balanced 240 = .ok (.if_icmp .ne 18, 3) := by decide +kernel
theorem dX12_balanced_243 : decode cX12_balanced 243 = .ok (.iload 7, 2) := by decide +kernel
theorem dX12_balanced_245 : decode cX12_balanced 245 = .ok (.bipush 8, 2) := by decide +kernel
theorem dX12_balanced_247 : decode cX12_balanced 247 = .ok (.if_icmp .ne 7, 3) := by decide +kernel
theorem dX12_balanced_250 : decode cX12_balanced 250 = .ok (.iconst 1, 1) := by decide +kernel
theorem dX12_balanced_251 : decode cX12_balanced 251 = .ok (.goto 18, 3) := by decide +kernel
theorem dX12_balanced_254 : decode cX12_balanced 254 = .ok (.iconst 0, 1) := by decide +kernel
theorem dX12_balanced_255 : decode cX12_balanced 255 = .ok (.goto 14, 3) := by decide +kernel
theorem dX12_balanced_258 : decode cX12_balanced 258 = .ok (.iload 7, 2) := by decide +kernel
theorem dX12_balanced_260 : decode cX12_balanced 260 = .ok (.iconst 3, 1) := by decide +kernel
theorem dX12_balanced_261 : decode cX12_balanced 261 = .ok (.if_icmp .ne 7, 3) := by decide +kernel
theorem dX12_balanced_264 : decode cX12_balanced 264 = .ok (.iconst 1, 1) := by decide +kernel
theorem dX12_balanced_265 : decode cX12_balanced 265 = .ok (.goto 4, 3) := by decide +kernel
theorem dX12_balanced_268 : decode cX12_balanced 268 = .ok (.iconst 0, 1) := by decide +kernel
theorem dX12_balanced_269 : decode cX12_balanced 269 = .ok (.istore 8, 2) := by decide +kernel
theorem dX12_balanced_271 : decode cX12_balanced 271 = .ok (.iload 8, 2) := by decide +kernel
theorem dX12_balanced_273 : decode cX12_balanced 273 = .ok (.ifCond .ne 5, 3) := by decide +kernel
theorem dX12_balanced_276 : decode cX12_balanced 276 = .ok (.iconst 0, 1) := by decide +kernel
theorem dX12_balanced_277 : decode cX12_balanced 277 = .ok (.ireturn, 1) := by decide +kernel
theorem dX12_balanced_278 : decode cX12_balanced 278 = .ok (.iload 6, 2) := by decide +kernel
theorem dX12_balanced_280 : decode cX12_balanced 280 = .ok (.bipush 9, 2) := by decide +kernel
theorem dX12_balanced_282 : decode cX12_balanced 282 = .ok (.if_icmp .ne 9, 3) := by decide +kernel
theorem dX12_balanced_285 : decode cX12_balanced 285 = .ok (.iload 4, 2) := by decide +kernel
theorem dX12_balanced_287 : decode cX12_balanced 287 = .ok (.iconst 1, 1) := by decide +kernel
theorem dX12_balanced_288 : decode cX12_balanced 288 = .ok (.isub, 1) := by decide +kernel
theorem dX12_balanced_289 : decode cX12_balanced 289 = .ok (.istore 4, 2) := by decide +kernel
theorem dX12_balanced_291 : decode cX12_balanced 291 = .ok (.iload_n 3, 1) := by decide +kernel
theorem dX12_balanced_292 : decode cX12_balanced 292 = .ok (.iconst 1, 1) := by decide +kernel
theorem dX12_balanced_293 : decode cX12_balanced 293 = .ok (.isub, 1) := by decide +kernel
theorem dX12_balanced_294 : decode cX12_balanced 294 = .ok (.istore_n 3, 1) := by decide +kernel
theorem dX12_balanced_295 : decode cX12_balanced 295 = .ok (.iinc 5 1, 3) := by decide +kernel
theorem dX12_balanced_298 : decode cX12_balanced 298 = .ok (.goto (-290), 3) := by decide +kernel
theorem dX12_balanced_301 : decode cX12_balanced 301 = .ok (.iload_n 3, 1) := by decide +kernel
theorem dX12_balanced_302 : decode cX12_balanced 302 = .ok (.ifCond .ne 7, 3) := by decide +kernel
theorem dX12_balanced_305 : decode cX12_balanced 305 = .ok (.iconst 1, 1) := by decide +kernel
theorem dX12_balanced_306 : decode cX12_balanced 306 = .ok (.goto 4, 3) := by decide +kernel
theorem dX12_balanced_309 : decode cX12_balanced 309 = .ok (.iconst 0, 1) := by decide +kernel
theorem dX12_balanced_310 : decode cX12_balanced 310 = .ok (.ireturn, 1) := by decide +kernel
theorem dX12_used_0 : decode cX12_used 0 = .ok (.aload_n 0, 1) := by decide +kernel
theorem dX12_used_1 : decode cX12_used 1 = .ok (.getfield 172, 3) := by decide +kernel
theorem dX12_used_4 : decode cX12_used 4 = .ok (.ifCond .ne 7, 3) := by decide +kernel
theorem dX12_used_7 : decode cX12_used 7 = .ok (.iconst 0, 1) := by decide +kernel
theorem dX12_used_8 : decode cX12_used 8 = .ok (.goto 26, 3) := by decide +kernel
theorem dX12_used_11 : decode cX12_used 11 = .ok (.aload_n 0, 1) := by decide +kernel
theorem dX12_used_12 : decode cX12_used 12 = .ok (.getfield 32, 3) := by decide +kernel
theorem dX12_used_15 : decode cX12_used 15 = .ok (.aload_n 0, 1) := by decide +kernel
theorem dX12_used_16 : decode cX12_used 16 = .ok (.getfield 172, 3) := by decide +kernel
theorem dX12_used_19 : decode cX12_used 19 = .ok (.iconst 1, 1) := by decide +kernel
theorem dX12_used_20 : decode cX12_used 20 = .ok (.isub, 1) := by decide +kernel
theorem dX12_used_21 : decode cX12_used 21 = .ok (.iaload, 1) := by decide +kernel
theorem dX12_used_22 : decode cX12_used 22 = .ok (.aload_n 0, 1) := by decide +kernel
theorem dX12_used_23 : decode cX12_used 23 = .ok (.getfield 35, 3) := by decide +kernel
theorem dX12_used_26 : decode cX12_used 26 = .ok (.aload_n 0, 1) := by decide +kernel
theorem dX12_used_27 : decode cX12_used 27 = .ok (.getfield 172, 3) := by decide +kernel
theorem dX12_used_30 : decode cX12_used 30 = .ok (.iconst 1, 1) := by decide +kernel
theorem dX12_used_31 : decode cX12_used 31 = .ok (.isub, 1) := by decide +kernel
theorem dX12_used_32 : decode cX12_used 32 = .ok (.iaload, 1) := by decide +kernel
theorem dX12_used_33 : decode cX12_used 33 = .ok (.iadd, 1) := by decide +kernel
theorem dX12_used_34 : decode cX12_used 34 = .ok (.ireturn, 1) := by decide +kernel
theorem dX12_define_0 : decode cX12_define 0 = .ok (.aload_n 0, 1) := by decide +kernel
theorem dX12_define_1 : decode cX12_define 1 = .ok (.iload_n 1, 1) := by decide +kernel
theorem dX12_define_2 : decode cX12_define 2 = .ok (.iconst 1, 1) := by decide +kernel
theorem dX12_define_3 : decode cX12_define 3 = .ok (.iadd, 1) := by decide +kernel
theorem dX12_define_4 : decode cX12_define 4 = .ok (.putfield 62, 3) := by decide +kernel
theorem dX12_define_7 : decode cX12_define 7 = .ok (.iload_n 1, 1) := by decide +kernel
theorem dX12_define_8 : decode cX12_define 8 = .ok (.iconst 1, 1) := by decide +kernel
theorem dX12_define_9 : decode cX12_define 9 = .ok (.iadd, 1) := by decide +kernel
theorem dX12_define_10 : decode cX12_define 10 = .ok (.aload_n 0, 1) := by decide +kernel
theorem dX12_define_11 : decode cX12_define 11 = .ok (.getfield 69, 3) := by decide +kernel
theorem dX12_define_14 : decode cX12_define 14 = .ok (.if_icmp .lt 10, 3) := by decide +kernel
theorem dX12_define_17 : decode cX12_define 17 = .ok (.aload_n 0, 1) := by decide +kernel
theorem dX12_define_18 : decode cX12_define 18 = .ok (.iconst 1, 1) := by decide +kernel
theorem dX12_define_19 : decode cX12_define 19 = .ok (.putfield 175, 3) := by decide +kernel
theorem dX12_define_22 : decode cX12_define 22 = .ok (.iconst (-1), 1) := by decide +kernel
theorem dX12_define_23 : decode cX12_define 23 = .ok (.ireturn, 1) := by decide +kernel
theorem dX12_define_24 : decode cX12_define 24 = .ok (.aload_n 0, 1) := by decide +kernel
theorem dX12_define_25 : decode cX12_define 25 = .ok (.iload_n 1, 1) := by decide +kernel
theorem dX12_define_26 : decode cX12_define 26 = .ok (.iconst 1, 1) := by decide +kernel
theorem dX12_define_27 : decode cX12_define 27 = .ok (.iadd, 1) := by decide +kernel
theorem dX12_define_28 : decode cX12_define 28 = .ok (.invokevirtual 252, 3) := by decide +kernel
theorem dX12_define_31 : decode cX12_define 31 = .ok (.lstore_n 2, 1) := by decide +kernel
theorem dX12_define_32 : decode cX12_define 32 = .ok (.aload_n 0, 1) := by decide +kernel
theorem dX12_define_33 : decode cX12_define 33 = .ok (.getfield 16, 3) := by decide +kernel
theorem dX12_define_36 : decode cX12_define 36 = .ok (.iload_n 1, 1) := by decide +kernel
theorem dX12_define_37 : decode cX12_define 37 = .ok (.iconst 1, 1) := by decide +kernel
theorem dX12_define_38 : decode cX12_define 38 = .ok (.iadd, 1) := by decide +kernel
theorem dX12_define_39 : decode cX12_define 39 = .ok (.iaload, 1) := by decide +kernel
theorem dX12_define_40 : decode cX12_define 40 = .ok (.aload_n 0, 1) := by decide +kernel
theorem dX12_define_41 : decode cX12_define 41 = .ok (.getfield 13, 3) := by decide +kernel
theorem dX12_define_44 : decode cX12_define 44 = .ok (.iload_n 1, 1) := by decide +kernel
theorem dX12_define_45 : decode cX12_define 45 = .ok (.iconst 1, 1) := by decide +kernel
theorem dX12_define_46 : decode cX12_define 46 = .ok (.iadd, 1) := by decide +kernel
theorem dX12_define_47 : decode cX12_define 47 = .ok (.iaload, 1) := by decide +kernel
theorem dX12_define_48 : decode cX12_define 48 = .ok (.isub, 1) := by decide +kernel
theorem dX12_define_49 : decode cX12_define 49 = .ok (.bipush 6, 2) := by decide +kernel
theorem dX12_define_51 : decode cX12_define 51 = .ok (.if_icmp .gt 51, 3) := by decide +kernel
theorem dX12_define_54 : decode cX12_define 54 = .ok (.aload_n 0, 1) := by decide +kernel
theorem dX12_define_55 : decode cX12_define 55 = .ok (.iload_n 1, 1) := by decide +kernel
theorem dX12_define_56 : decode cX12_define 56 = .ok (.iconst 1, 1) := by decide +kernel
theorem dX12_define_57 : decode cX12_define 57 = .ok (.iadd, 1) := by decide +kernel
theorem dX12_define_58 : decode cX12_define 58 = .ok (.invokevirtual 256, 3) := by decide +kernel
theorem dX12_define_61 : decode cX12_define 61 = .ok (.ifCond .ne 41, 3) := by decide +kernel
theorem dX12_define_64 : decode cX12_define 64 = .ok (.lload_n 2, 1) := by decide +kernel
theorem dX12_define_65 : decode cX12_define 65 = .ok (.invokestatic 259, 3) := by decide +kernel
theorem dX12_define_68 : decode cX12_define 68 = .ok (.ifCond .ge 34, 3) := by decide +kernel
theorem dX12_define_71 : decode cX12_define 71 = .ok (.lload_n 2, 1) := by decide +kernel
theorem dX12_define_72 : decode cX12_define 72 = .ok (.invokestatic 263, 3) := by decide +kernel
theorem dX12_define_75 : decode cX12_define 75 = .ok (.ifCond .ge 27, 3) := by decide +kernel
theorem dX12_define_78 : decode cX12_define 78 = .ok (.lload_n 2, 1) := by decide +kernel
theorem dX12_define_79 : decode cX12_define 79 = .ok (.ldc2_w 266, 3) := by decide +kernel
theorem dX12_define_82 : decode cX12_define 82 = .ok (.lcmp, 1) := by decide +kernel
theorem dX12_define_83 : decode cX12_define 83 = .ok (.ifCond .eq 19, 3) := by decide +kernel
theorem dX12_define_86 : decode cX12_define 86 = .ok (.lload_n 2, 1) := by decide +kernel
theorem dX12_define_87 : decode cX12_define 87 = .ok (.ldc2_w 268, 3) := by decide +kernel
theorem dX12_define_90 : decode cX12_define 90 = .ok (.lcmp, 1) := by decide +kernel
theorem dX12_define_91 : decode cX12_define 91 = .ok (.ifCond .eq 11, 3) := by decide +kernel
theorem dX12_define_94 : decode cX12_define 94 = .ok (.lload_n 2, 1) := by decide +kernel
theorem dX12_define_95 : decode cX12_define 95 = .ok (.ldc2_w 270, 3) := by decide +kernel
theorem dX12_define_98 : decode cX12_define 98 = .ok (.lcmp, 1) := by decide +kernel
theorem dX12_define_99 : decode cX12_define 99 = .ok (.ifCond .ne 11, 3) := by decide +kernel
theorem dX12_define_102 : decode cX12_define 102 = .ok (.aload_n 0, 1) := by decide +kernel
theorem dX12_define_103 : decode cX12_define 103 = .ok (.bipush 9, 2) := by decide +kernel
theorem dX12_define_105 : decode cX12_define 105 = .ok (.putfield 175, 3) := by decide +kernel
theorem dX12_define_108 : decode cX12_define 108 = .ok (.iconst (-1), 1) := by decide +kernel
theorem dX12_define_109 : decode cX12_define 109 = .ok (.ireturn, 1) := by decide +kernel
theorem dX12_define_110 : decode cX12_define 110 = .ok (.aload_n 0, 1) := by decide +kernel
theorem dX12_define_111 : decode cX12_define 111 = .ok (.invokevirtual 272, 3) := by decide +kernel
theorem dX12_define_114 : decode cX12_define 114 = .ok (.istore 4, 2) := by decide +kernel
theorem dX12_define_116 : decode cX12_define 116 = .ok (.iconst 0, 1) := by decide +kernel
theorem dX12_define_117 : decode cX12_define 117 = .ok (.istore 5, 2) := by decide +kernel
theorem dX12_define_119 : decode cX12_define 119 = .ok (.iload_n 1, 1) := by decide +kernel
theorem dX12_define_120 : decode cX12_define 120 = .ok (.iconst 2, 1) := by decide +kernel
theorem dX12_define_121 : decode cX12_define 121 = .ok (.iadd, 1) := by decide +kernel
theorem dX12_define_122 : decode cX12_define 122 = .ok (.istore 6, 2) := by decide +kernel
theorem dX12_define_124 : decode cX12_define 124 = .ok (.iload 6, 2) := by decide +kernel
theorem dX12_define_126 : decode cX12_define 126 = .ok (.aload_n 0, 1) := by decide +kernel
theorem dX12_define_127 : decode cX12_define 127 = .ok (.getfield 69, 3) := by decide +kernel
theorem dX12_define_130 : decode cX12_define 130 = .ok (.if_icmp .ge 162, 3) := by decide +kernel
theorem dX12_define_133 : decode cX12_define 133 = .ok (.aload_n 0, 1) := by decide +kernel
theorem dX12_define_134 : decode cX12_define 134 = .ok (.iload 6, 2) := by decide +kernel
theorem dX12_define_136 : decode cX12_define 136 = .ok (.putfield 62, 3) := by decide +kernel
theorem dX12_define_139 : decode cX12_define 139 = .ok (.aload_n 0, 1) := by decide +kernel
theorem dX12_define_140 : decode cX12_define 140 = .ok (.iload 6, 2) := by decide +kernel
theorem dX12_define_142 : decode cX12_define 142 = .ok (.invokevirtual 252, 3) := by decide +kernel
theorem dX12_define_145 : decode cX12_define 145 = .ok (.lstore 7, 2) := by decide +kernel
theorem dX12_define_147 : decode cX12_define 147 = .ok (.lload 7, 2) := by decide +kernel
theorem dX12_define_149 : decode cX12_define 149 = .ok (.ldc2_w 268, 3) := by decide +kernel
theorem dX12_define_152 : decode cX12_define 152 = .ok (.lcmp, 1) := by decide +kernel
theorem dX12_define_153 : decode cX12_define 153 = .ok (.ifCond .ne 104, 3) := by decide +kernel
theorem dX12_define_156 : decode cX12_define 156 = .ok (.aload_n 0, 1) := by decide +kernel
theorem dX12_define_157 : decode cX12_define 157 = .ok (.getfield 172, 3) := by decide +kernel
theorem dX12_define_160 : decode cX12_define 160 = .ok (.bipush 20, 2) := by decide +kernel
theorem dX12_define_162 : decode cX12_define 162 = .ok (.if_icmp .eq 14, 3) := by decide +kernel
theorem dX12_define_165 : decode cX12_define 165 = .ok (.iload 4, 2) := by decide +kernel
theorem dX12_define_167 : decode cX12_define 167 = .ok (.iload 5, 2) := by decide +kernel
theorem dX12_define_169 : decode cX12_define 169 = .ok (.iadd, 1) := by decide +kernel
theorem dX12_define_170 : decode cX12_define 170 = .ok (.sipush 200, 3) := by decide +kernel
theorem dX12_define_173 : decode cX12_define 173 = .ok (.if_icmp .le 12, 3) := by decide +kernel
theorem dX12_define_176 : decode cX12_define 176 = .ok (.aload_n 0, 1) := by decide +kernel
theorem dX12_define_177 : decode cX12_define 177 = .ok (.bipush 9, 2) := by decide +kernel
theorem dX12_define_179 : decode cX12_define 179 = .ok (.putfield 175, 3) := by decide +kernel
theorem dX12_define_182 : decode cX12_define 182 = .ok (.goto 19, 3) := by decide +kernel
theorem dX12_define_185 : decode cX12_define 185 = .ok (.aload_n 0, 1) := by decide +kernel
theorem dX12_define_186 : decode cX12_define 186 = .ok (.iload 4, 2) := by decide +kernel
theorem dX12_define_188 : decode cX12_define 188 = .ok (.iload 5, 2) := by decide +kernel
theorem dX12_define_190 : decode cX12_define 190 = .ok (.invokevirtual 276, 3) := by decide +kernel
theorem dX12_define_193 : decode cX12_define 193 = .ok (.ifCond .ne 8, 3) := by decide +kernel
theorem dX12_define_196 : decode cX12_define 196 = .ok (.aload_n 0, 1) := by decide +kernel
theorem dX12_define_197 : decode cX12_define 197 = .ok (.iconst 2, 1) := by decide +kernel
theorem dX12_define_198 : decode cX12_define 198 = .ok (.putfield 175, 3) := by decide +kernel
theorem dX12_define_201 : decode cX12_define 201 = .ok (.aload_n 0, 1) := by decide +kernel
theorem dX12_define_202 : decode cX12_define 202 = .ok (.getfield 175, 3) := by decide +kernel
theorem dX12_define_205 : decode cX12_define 205 = .ok (.ifCond .le 5, 3) := by decide +kernel
theorem dX12_define_208 : decode cX12_define 208 = .ok (.iconst (-1), 1) := by decide +kernel
theorem dX12_define_209 : decode cX12_define 209 = .ok (.ireturn, 1) := by decide +kernel
theorem dX12_define_210 : decode cX12_define 210 = .ok (.aload_n 0, 1) := by decide +kernel
theorem dX12_define_211 : decode cX12_define 211 = .ok (.getfield 28, 3) := by decide +kernel
theorem dX12_define_214 : decode cX12_define 214 = .ok (.aload_n 0, 1) := by decide +kernel
theorem dX12_define_215 : decode cX12_define 215 = .ok (.getfield 172, 3) := by decide +kernel
theorem dX12_define_218 : decode cX12_define 218 = .ok (.lload_n 2, 1) := by decide +kernel
theorem dX12_define_219 : decode cX12_define 219 = .ok (.lastore, 1) := by decide +kernel
theorem dX12_define_220 : decode cX12_define 220 = .ok (.aload_n 0, 1) := by decide +kernel
theorem dX12_define_221 : decode cX12_define 221 = .ok (.getfield 32, 3) := by decide +kernel
theorem dX12_define_224 : decode cX12_define 224 = .ok (.aload_n 0, 1) := by decide +kernel
theorem dX12_define_225 : decode cX12_define 225 = .ok (.getfield 172, 3) := by decide +kernel
theorem dX12_define_228 : decode cX12_define 228 = .ok (.iload 4, 2) := by decide +kernel
theorem dX12_define_230 : decode cX12_define 230 = .ok (.iastore, 1) := by decide +kernel
theorem dX12_define_231 : decode cX12_define 231 = .ok (.aload_n 0, 1) := by decide +kernel
theorem dX12_define_232 : decode cX12_define 232 = .ok (.getfield 35, 3) := by decide +kernel
theorem dX12_define_235 : decode cX12_define 235 = .ok (.aload_n 0, 1) := by decide +kernel
theorem dX12_define_236 : decode cX12_define 236 = .ok (.getfield 172, 3) := by decide +kernel
theorem dX12_define_239 : decode cX12_define 239 = .ok (.iload 5, 2) := by decide +kernel
theorem dX12_define_241 : decode cX12_define 241 = .ok (.iastore, 1) := by decide +kernel
theorem dX12_define_242 : decode cX12_define 242 = .ok (.aload_n 0, 1) := by decide +kernel
theorem dX12_define_243 : decode cX12_define 243 = .ok (.aload_n 0, 1) := by decide +kernel
theorem dX12_define_244 : decode cX12_define 244 = .ok (.getfield 172, 3) := by decide +kernel
theorem dX12_define_247 : decode cX12_define 247 = .ok (.iconst 1, 1) := by decide +kernel
theorem dX12_define_248 : decode cX12_define 248 = .ok (.iadd, 1) := by decide +kernel
theorem dX12_define_249 : decode cX12_define 249 = .ok (.putfield 172, 3) := by decide +kernel
theorem dX12_define_252 : decode cX12_define 252 = .ok (.iload 6, 2) := by decide +kernel
theorem dX12_define_254 : decode cX12_define 254 = .ok (.iconst 1, 1) := by decide +kernel
theorem dX12_define_255 : decode cX12_define 255 = .ok (.iadd, 1) := by decide +kernel
theorem dX12_define_256 : decode cX12_define 256 = .ok (.ireturn, 1) := by decide +kernel
theorem dX12_define_257 : decode cX12_define 257 = .ok (.aload_n 0, 1) := by decide +kernel
theorem dX12_define_258 : decode cX12_define 258 = .ok (.iload 6, 2) := by decide +kernel
theorem dX12_define_260 : decode cX12_define 260 = .ok (.lload 7, 2) := by decide +kernel
theorem dX12_define_262 : decode cX12_define 262 = .ok (.iload 4, 2) := by decide +kernel
theorem dX12_define_264 : decode cX12_define 264 = .ok (.iload 5, 2) := by decide +kernel
theorem dX12_define_266 : decode cX12_define 266 = .ok (.iadd, 1) := by decide +kernel
theorem dX12_define_267 : decode cX12_define 267 = .ok (.invokevirtual 280, 3) := by decide +kernel
theorem dX12_define_270 : decode cX12_define 270 = .ok (.ifCond .ne 10, 3) := by decide +kernel
theorem dX12_define_273 : decode cX12_define 273 = .ok (.aload_n 0, 1) := by decide +kernel
theorem dX12_define_274 : decode cX12_define 274 = .ok (.iconst 1, 1) := by decide +kernel
theorem dX12_define_275 : decode cX12_define 275 = .ok (.putfield 175, 3) := by decide +kernel
theorem dX12_define_278 : decode cX12_define 278 = .ok (.iconst (-1), 1) := by decide +kernel
theorem dX12_define_279 : decode cX12_define 279 = .ok (.ireturn, 1) := by decide +kernel
theorem dX12_define_280 : decode cX12_define 280 = .ok (.iload 5, 2) := by decide +kernel
theorem dX12_define_282 : decode cX12_define 282 = .ok (.iconst 1, 1) := by decide +kernel
theorem dX12_define_283 : decode cX12_define 283 = .ok (.iadd, 1) := by decide +kernel
theorem dX12_define_284 : decode cX12_define 284 = .ok (.istore 5, 2) := by decide +kernel
theorem dX12_define_286 : decode cX12_define 286 = .ok (.iinc 6 1, 3) := by decide +kernel
theorem dX12_define_289 : decode cX12_define 289 = .ok (.goto (-165), 3) := by decide +kernel
theorem dX12_define_292 : decode cX12_define 292 = .ok (.aload_n 0, 1) := by decide +kernel
theorem dX12_define_293 : decode cX12_define 293 = .ok (.aload_n 0, 1) := by decide +kernel
theorem dX12_define_294 : decode cX12_define 294 = .ok (.getfield 69, 3) := by decide +kernel
theorem dX12_define_297 : decode cX12_define 297 = .ok (.putfield 62, 3) := by decide +kernel
theorem dX12_define_300 : decode cX12_define 300 = .ok (.aload_n 0, 1) := by decide +kernel
theorem dX12_define_301 : decode cX12_define 301 = .ok (.iconst 1, 1) := by decide +kernel
theorem dX12_define_302 : decode cX12_define 302 = .ok (.putfield 175, 3) := by decide +kernel
theorem dX12_define_305 : decode cX12_define 305 = .ok (.iconst (-1), 1) := by decide +kernel
theorem dX12_define_306 : decode cX12_define 306 = .ok (.ireturn, 1) := by decide +kernel
theorem dX12_entry_0 : decode cX12_entry 0 = .ok (.aload_n 0, 1) := by decide +kernel
theorem dX12_entry_1 : decode cX12_entry 1 = .ok (.getfield 38, 3) := by decide +kernel
theorem dX12_entry_4 : decode cX12_entry 4 = .ok (.iload 4, 2) := by decide +kernel
theorem dX12_entry_6 : decode cX12_entry 6 = .ok (.aload_n 0, 1) := by decide +kernel
theorem dX12_entry_7 : decode cX12_entry 7 = .ok (.iload_n 1, 1) := by decide +kernel
theorem dX12_entry_8 : decode cX12_entry 8 = .ok (.invokevirtual 256, 3) := by decide +kernel
theorem dX12_entry_11 : decode cX12_entry 11 = .ok (.ifCond .eq 7, 3) := by decide +kernel
theorem dX12_entry_14 : decode cX12_entry 14 = .ok (.iconst 0, 1) := by decide +kernel
theorem dX12_entry_15 : decode cX12_entry 15 = .ok (.goto 26, 3) := by decide +kernel
theorem dX12_entry_18 : decode cX12_entry 18 = .ok (.lload_n 2, 1) := by decide +kernel
theorem dX12_entry_19 : decode cX12_entry 19 = .ok (.invokestatic 259, 3) := by decide +kernel
theorem dX12_entry_22 : decode cX12_entry 22 = .ok (.ifCond .lt 7, 3) := by decide +kernel
theorem dX12_entry_25 : decode cX12_entry 25 = .ok (.iconst 1, 1) := by decide +kernel
theorem dX12_entry_26 : decode cX12_entry 26 = .ok (.goto 15, 3) := by decide +kernel
theorem dX12_entry_29 : decode cX12_entry 29 = .ok (.lload_n 2, 1) := by decide +kernel
theorem dX12_entry_30 : decode cX12_entry 30 = .ok (.invokestatic 263, 3) := by decide +kernel
theorem dX12_entry_33 : decode cX12_entry 33 = .ok (.ifCond .lt 7, 3) := by decide +kernel
theorem dX12_entry_36 : decode cX12_entry 36 = .ok (.iconst 2, 1) := by decide +kernel
theorem dX12_entry_37 : decode cX12_entry 37 = .ok (.goto 4, 3) := by decide +kernel
theorem dX12_entry_40 : decode cX12_entry 40 = .ok (.iconst 3, 1) := by decide +kernel
theorem dX12_entry_41 : decode cX12_entry 41 = .ok (.iastore, 1) := by decide +kernel
theorem dX12_entry_42 : decode cX12_entry 42 = .ok (.aload_n 0, 1) := by decide +kernel
theorem dX12_entry_43 : decode cX12_entry 43 = .ok (.getfield 41, 3) := by decide +kernel
theorem dX12_entry_46 : decode cX12_entry 46 = .ok (.iload 4, 2) := by decide +kernel
theorem dX12_entry_48 : decode cX12_entry 48 = .ok (.aload_n 0, 1) := by decide +kernel
theorem dX12_entry_49 : decode cX12_entry 49 = .ok (.getfield 38, 3) := by decide +kernel
theorem dX12_entry_52 : decode cX12_entry 52 = .ok (.iload 4, 2) := by decide +kernel
theorem dX12_entry_54 : decode cX12_entry 54 = .ok (.iaload, 1) := by decide +kernel
theorem dX12_entry_55 : decode cX12_entry 55 = .ok (.ifCond .ne 11, 3) := by decide +kernel
theorem dX12_entry_58 : decode cX12_entry 58 = .ok (.aload_n 0, 1) := by decide +kernel
theorem dX12_entry_59 : decode cX12_entry 59 = .ok (.iload_n 1, 1) := by decide +kernel
theorem dX12_entry_60 : decode cX12_entry 60 = .ok (.invokevirtual 284, 3) := by decide +kernel
theorem dX12_entry_63 : decode cX12_entry 63 = .ok (.goto 44, 3) := by decide +kernel
theorem dX12_entry_66 : decode cX12_entry 66 = .ok (.aload_n 0, 1) := by decide +kernel
theorem dX12_entry_67 : decode cX12_entry 67 = .ok (.getfield 38, 3) := by decide +kernel
theorem dX12_entry_70 : decode cX12_entry 70 = .ok (.iload 4, 2) := by decide +kernel
theorem dX12_entry_72 : decode cX12_entry 72 = .ok (.iaload, 1) := by decide +kernel
theorem dX12_entry_73 : decode cX12_entry 73 = .ok (.iconst 1, 1) := by decide +kernel
theorem dX12_entry_74 : decode cX12_entry 74 = .ok (.if_icmp .ne 10, 3) := by decide +kernel
theorem dX12_entry_77 : decode cX12_entry 77 = .ok (.lload_n 2, 1) := by decide +kernel
theorem dX12_entry_78 : decode cX12_entry 78 = .ok (.invokestatic 259, 3) := by decide +kernel
theorem dX12_entry_81 : decode cX12_entry 81 = .ok (.goto 26, 3) := by decide +kernel
theorem dX12_entry_84 : decode cX12_entry 84 = .ok (.aload_n 0, 1) := by decide +kernel
theorem dX12_entry_85 : decode cX12_entry 85 = .ok (.getfield 38, 3) := by decide +kernel
theorem dX12_entry_88 : decode cX12_entry 88 = .ok (.iload 4, 2) := by decide +kernel
theorem dX12_entry_90 : decode cX12_entry 90 = .ok (.iaload, 1) := by decide +kernel
theorem dX12_entry_91 : decode cX12_entry 91 = .ok (.iconst 2, 1) := by decide +kernel
theorem dX12_entry_92 : decode cX12_entry 92 = .ok (.if_icmp .ne 10, 3) := by decide +kernel
theorem dX12_entry_95 : decode cX12_entry 95 = .ok (.lload_n 2, 1) := by decide +kernel
theorem dX12_entry_96 : decode cX12_entry 96 = .ok (.invokestatic 263, 3) := by decide +kernel
theorem dX12_entry_99 : decode cX12_entry 99 = .ok (.goto 8, 3) := by decide +kernel
theorem dX12_entry_102 : decode cX12_entry 102 = .ok (.aload_n 0, 1) := by decide +kernel
theorem dX12_entry_103 : decode cX12_entry 103 = .ok (.lload_n 2, 1) := by decide +kernel
theorem dX12_entry_104 : decode cX12_entry 104 = .ok (.invokevirtual 287, 3) := by decide +kernel
theorem dX12_entry_107 : decode cX12_entry 107 = .ok (.iastore, 1) := by decide +kernel
theorem dX12_entry_108 : decode cX12_entry 108 = .ok (.aload_n 0, 1) := by decide +kernel
theorem dX12_entry_109 : decode cX12_entry 109 = .ok (.getfield 41, 3) := by decide +kernel
theorem dX12_entry_112 : decode cX12_entry 112 = .ok (.iload 4, 2) := by decide +kernel
theorem dX12_entry_114 : decode cX12_entry 114 = .ok (.iaload, 1) := by decide +kernel
theorem dX12_entry_115 : decode cX12_entry 115 = .ok (.ifCond .ge 13, 3) := by decide +kernel
theorem dX12_entry_118 : decode cX12_entry 118 = .ok (.aload_n 0, 1) := by decide +kernel
theorem dX12_entry_119 : decode cX12_entry 119 = .ok (.getfield 38, 3) := by decide +kernel
theorem dX12_entry_122 : decode cX12_entry 122 = .ok (.iload 4, 2) := by decide +kernel
theorem dX12_entry_124 : decode cX12_entry 124 = .ok (.iaload, 1) := by decide +kernel
theorem dX12_entry_125 : decode cX12_entry 125 = .ok (.ifCond .ne 7, 3) := by decide +kernel
theorem dX12_entry_128 : decode cX12_entry 128 = .ok (.iconst 1, 1) := by decide +kernel
theorem dX12_entry_129 : decode cX12_entry 129 = .ok (.goto 4, 3) := by decide +kernel
theorem dX12_entry_132 : decode cX12_entry 132 = .ok (.iconst 0, 1) := by decide +kernel
theorem dX12_entry_133 : decode cX12_entry 133 = .ok (.ireturn, 1) := by decide +kernel
theorem dX12_load_0 : decode cX12_load 0 = .ok (.aload_n 0, 1) := by decide +kernel
theorem dX12_load_1 : decode cX12_load 1 = .ok (.invokevirtual 290, 3) := by decide +kernel
theorem dX12_load_4 : decode cX12_load 4 = .ok (.aload_n 0, 1) := by decide +kernel
theorem dX12_load_5 : decode cX12_load 5 = .ok (.iconst 0, 1) := by decide +kernel
theorem dX12_load_6 : decode cX12_load 6 = .ok (.putfield 185, 3) := by decide +kernel
theorem dX12_load_9 : decode cX12_load 9 = .ok (.aload_n 0, 1) := by decide +kernel
theorem dX12_load_10 : decode cX12_load 10 = .ok (.iconst 0, 1) := by decide +kernel
theorem dX12_load_11 : decode cX12_load 11 = .ok (.putfield 175, 3) := by decide +kernel
theorem dX12_load_14 : decode cX12_load 14 = .ok (.aload_n 0, 1) := by decide +kernel
theorem dX12_load_15 : decode cX12_load 15 = .ok (.iconst (-1), 1) := by decide +kernel
theorem dX12_load_16 : decode cX12_load 16 = .ok (.putfield 62, 3) := by decide +kernel
theorem dX12_load_19 : decode cX12_load 19 = .ok (.aload_n 0, 1) := by decide +kernel
theorem dX12_load_20 : decode cX12_load 20 = .ok (.iconst 0, 1) := by decide +kernel
theorem dX12_load_21 : decode cX12_load 21 = .ok (.putfield 209, 3) := by decide +kernel
theorem dX12_load_24 : decode cX12_load 24 = .ok (.aload_n 0, 1) := by decide +kernel
theorem dX12_load_25 : decode cX12_load 25 = .ok (.iconst 0, 1) := by decide +kernel
theorem dX12_load_26 : decode cX12_load 26 = .ok (.putfield 212, 3) := by decide +kernel
theorem dX12_load_29 : decode cX12_load 29 = .ok (.iconst 0, 1) := by decide +kernel
theorem dX12_load_30 : decode cX12_load 30 = .ok (.istore_n 1, 1) := by decide +kernel
theorem dX12_load_31 : decode cX12_load 31 = .ok (.iconst 0, 1) := by decide +kernel
theorem dX12_load_32 : decode cX12_load 32 = .ok (.istore_n 2, 1) := by decide +kernel
theorem dX12_load_33 : decode cX12_load 33 = .ok (.iload_n 2, 1) := by decide +kernel
theorem dX12_load_34 : decode cX12_load 34 = .ok (.sipush 150, 3) := by decide +kernel
theorem dX12_load_37 : decode cX12_load 37 = .ok (.if_icmp .ge 30, 3) := by decide +kernel
theorem dX12_load_40 : decode cX12_load 40 = .ok (.iload_n 1, 1) := by decide +kernel
theorem dX12_load_41 : decode cX12_load 41 = .ok (.aload_n 0, 1) := by decide +kernel
theorem dX12_load_42 : decode cX12_load 42 = .ok (.getfield 69, 3) := by decide +kernel
theorem dX12_load_45 : decode cX12_load 45 = .ok (.if_icmp .ge 22, 3) := by decide +kernel
theorem dX12_load_48 : decode cX12_load 48 = .ok (.aload_n 0, 1) := by decide +kernel
theorem dX12_load_49 : decode cX12_load 49 = .ok (.getfield 175, 3) := by decide +kernel
theorem dX12_load_52 : decode cX12_load 52 = .ok (.ifCond .ne 15, 3) := by decide +kernel
theorem dX12_load_55 : decode cX12_load 55 = .ok (.aload_n 0, 1) := by decide +kernel
theorem dX12_load_56 : decode cX12_load 56 = .ok (.iload_n 1, 1) := by decide +kernel
theorem dX12_load_57 : decode cX12_load 57 = .ok (.invokevirtual 293, 3) := by decide +kernel
theorem dX12_load_60 : decode cX12_load 60 = .ok (.istore_n 1, 1) := by decide +kernel
theorem dX12_load_61 : decode cX12_load 61 = .ok (.iinc 2 1, 3) := by decide +kernel
theorem dX12_load_64 : decode cX12_load 64 = .ok (.goto (-31), 3) := by decide +kernel
theorem dX12_load_67 : decode cX12_load 67 = .ok (.aload_n 0, 1) := by decide +kernel
theorem dX12_load_68 : decode cX12_load 68 = .ok (.getfield 175, 3) := by decide +kernel
theorem dX12_load_71 : decode cX12_load 71 = .ok (.ifCond .le 11, 3) := by decide +kernel
theorem dX12_load_74 : decode cX12_load 74 = .ok (.aload_n 0, 1) := by decide +kernel
theorem dX12_load_75 : decode cX12_load 75 = .ok (.iconst 0, 1) := by decide +kernel
theorem dX12_load_76 : decode cX12_load 76 = .ok (.putfield 178, 3) := by decide +kernel
theorem dX12_load_79 : decode cX12_load 79 = .ok (.goto 8, 3) := by decide +kernel
theorem dX12_load_82 : decode cX12_load 82 = .ok (.aload_n 0, 1) := by decide +kernel
theorem dX12_load_83 : decode cX12_load 83 = .ok (.iconst (-1), 1) := by decide +kernel
theorem dX12_load_84 : decode cX12_load 84 = .ok (.putfield 62, 3) := by decide +kernel
theorem dX12_load_87 : decode cX12_load 87 = .ok (.aload_n 0, 1) := by decide +kernel
theorem dX12_load_88 : decode cX12_load 88 = .ok (.getfield 175, 3) := by decide +kernel
theorem dX12_load_91 : decode cX12_load 91 = .ok (.ireturn, 1) := by decide +kernel
theorem dX12_outside_0 : decode cX12_outside 0 = .ok (.aload_n 0, 1) := by decide +kernel
theorem dX12_outside_1 : decode cX12_outside 1 = .ok (.iload_n 1, 1) := by decide +kernel
theorem dX12_outside_2 : decode cX12_outside 2 = .ok (.putfield 62, 3) := by decide +kernel
theorem dX12_outside_5 : decode cX12_outside 5 = .ok (.aload_n 0, 1) := by decide +kernel
theorem dX12_outside_6 : decode cX12_outside 6 = .ok (.iload_n 1, 1) := by decide +kernel
theorem dX12_outside_7 : decode cX12_outside 7 = .ok (.invokevirtual 252, 3) := by decide +kernel
theorem dX12_outside_10 : decode cX12_outside 10 = .ok (.lstore_n 2, 1) := by decide +kernel
theorem dX12_outside_11 : decode cX12_outside 11 = .ok (.iconst 1, 1) := by decide +kernel
theorem dX12_outside_12 : decode cX12_outside 12 = .ok (.istore 4, 2) := by decide +kernel
theorem dX12_outside_14 : decode cX12_outside 14 = .ok (.lload_n 2, 1) := by decide +kernel
theorem dX12_outside_15 : decode cX12_outside 15 = .ok (.ldc2_w 266, 3) := by decide +kernel
theorem dX12_outside_18 : decode cX12_outside 18 = .ok (.lcmp, 1) := by decide +kernel
theorem dX12_outside_19 : decode cX12_outside 19 = .ok (.ifCond .ne 9, 3) := by decide +kernel
theorem dX12_outside_22 : decode cX12_outside 22 = .ok (.aload_n 0, 1) := by decide +kernel
theorem dX12_outside_23 : decode cX12_outside 23 = .ok (.iload_n 1, 1) := by decide +kernel
theorem dX12_outside_24 : decode cX12_outside 24 = .ok (.invokevirtual 296, 3) := by decide +kernel
theorem dX12_outside_27 : decode cX12_outside 27 = .ok (.ireturn, 1) := by decide +kernel
theorem dX12_outside_28 : decode cX12_outside 28 = .ok (.lload_n 2, 1) := by decide +kernel
theorem dX12_outside_29 : decode cX12_outside 29 = .ok (.ldc2_w 270, 3) := by decide +kernel
theorem dX12_outside_32 : decode cX12_outside 32 = .ok (.lcmp, 1) := by decide +kernel
theorem dX12_outside_33 : decode cX12_outside 33 = .ok (.ifCond .ne 60, 3) := by decide +kernel
theorem dX12_outside_36 : decode cX12_outside 36 = .ok (.aload_n 0, 1) := by decide +kernel
theorem dX12_outside_37 : decode cX12_outside 37 = .ok (.iload_n 1, 1) := by decide +kernel
theorem dX12_outside_38 : decode cX12_outside 38 = .ok (.iconst 1, 1) := by decide +kernel
theorem dX12_outside_39 : decode cX12_outside 39 = .ok (.iadd, 1) := by decide +kernel
theorem dX12_outside_40 : decode cX12_outside 40 = .ok (.putfield 62, 3) := by decide +kernel
theorem dX12_outside_43 : decode cX12_outside 43 = .ok (.iload_n 1, 1) := by decide +kernel
theorem dX12_outside_44 : decode cX12_outside 44 = .ok (.iconst 1, 1) := by decide +kernel
theorem dX12_outside_45 : decode cX12_outside 45 = .ok (.iadd, 1) := by decide +kernel
theorem dX12_outside_46 : decode cX12_outside 46 = .ok (.aload_n 0, 1) := by decide +kernel
theorem dX12_outside_47 : decode cX12_outside 47 = .ok (.getfield 69, 3) := by decide +kernel
theorem dX12_outside_50 : decode cX12_outside 50 = .ok (.if_icmp .ge 17, 3) := by decide +kernel
theorem dX12_outside_53 : decode cX12_outside 53 = .ok (.aload_n 0, 1) := by decide +kernel
theorem dX12_outside_54 : decode cX12_outside 54 = .ok (.aload_n 0, 1) := by decide +kernel
theorem dX12_outside_55 : decode cX12_outside 55 = .ok (.iload_n 1, 1) := by decide +kernel
theorem dX12_outside_56 : decode cX12_outside 56 = .ok (.iconst 1, 1) := by decide +kernel
theorem dX12_outside_57 : decode cX12_outside 57 = .ok (.iadd, 1) := by decide +kernel
theorem dX12_outside_58 : decode cX12_outside 58 = .ok (.invokevirtual 252, 3) := by decide +kernel
theorem dX12_outside_61 : decode cX12_outside 61 = .ok (.invokevirtual 287, 3) := by decide +kernel
theorem dX12_outside_64 : decode cX12_outside 64 = .ok (.goto 4, 3) := by decide +kernel
theorem dX12_outside_67 : decode cX12_outside 67 = .ok (.iconst (-1), 1) := by decide +kernel
theorem dX12_outside_68 : decode cX12_outside 68 = .ok (.istore 5, 2) := by decide +kernel
theorem dX12_outside_70 : decode cX12_outside 70 = .ok (.iload 5, 2) := by decide +kernel
theorem dX12_outside_72 : decode cX12_outside 72 = .ok (.ifCond .ge 11, 3) := by decide +kernel
theorem dX12_outside_75 : decode cX12_outside 75 = .ok (.aload_n 0, 1) := by decide +kernel
theorem dX12_outside_76 : decode cX12_outside 76 = .ok (.iconst 1, 1) := by decide +kernel
theorem dX12_outside_77 : decode cX12_outside 77 = .ok (.putfield 175, 3) := by decide +kernel
theorem dX12_outside_80 : decode cX12_outside 80 = .ok (.goto 9, 3) := by decide +kernel
theorem dX12_outside_83 : decode cX12_outside 83 = .ok (.aload_n 0, 1) := by decide +kernel
theorem dX12_outside_84 : decode cX12_outside 84 = .ok (.iload 5, 2) := by decide +kernel
theorem dX12_outside_86 : decode cX12_outside 86 = .ok (.putfield 172, 3) := by decide +kernel
theorem dX12_outside_89 : decode cX12_outside 89 = .ok (.iload_n 1, 1) := by decide +kernel
theorem dX12_outside_90 : decode cX12_outside 90 = .ok (.iconst 2, 1) := by decide +kernel
theorem dX12_outside_91 : decode cX12_outside 91 = .ok (.iadd, 1) := by decide +kernel
theorem dX12_outside_92 : decode cX12_outside 92 = .ok (.ireturn, 1) := by decide +kernel
theorem dX12_outside_93 : decode cX12_outside 93 = .ok (.aload_n 0, 1) := by decide +kernel
theorem dX12_outside_94 : decode cX12_outside 94 = .ok (.iload_n 1, 1) := by decide +kernel
theorem dX12_outside_95 : decode cX12_outside 95 = .ok (.invokevirtual 256, 3) := by decide +kernel
theorem dX12_outside_98 : decode cX12_outside 98 = .ok (.ifCond .eq 17, 3) := by decide +kernel
theorem dX12_outside_101 : decode cX12_outside 101 = .ok (.aload_n 0, 1) := by decide +kernel
theorem dX12_outside_102 : decode cX12_outside 102 = .ok (.aload_n 0, 1) := by decide +kernel
theorem dX12_outside_103 : decode cX12_outside 103 = .ok (.iload_n 1, 1) := by decide +kernel
theorem dX12_outside_104 : decode cX12_outside 104 = .ok (.invokevirtual 284, 3) := by decide +kernel
theorem dX12_outside_107 : decode cX12_outside 107 = .ok (.invokevirtual 243, 3) := by decide +kernel
theorem dX12_outside_110 : decode cX12_outside 110 = .ok (.istore 4, 2) := by decide +kernel
theorem dX12_outside_112 : decode cX12_outside 112 = .ok (.goto 65, 3) := by decide +kernel
theorem dX12_outside_115 : decode cX12_outside 115 = .ok (.lload_n 2, 1) := by decide +kernel
theorem dX12_outside_116 : decode cX12_outside 116 = .ok (.invokestatic 259, 3) := by decide +kernel
theorem dX12_outside_119 : decode cX12_outside 119 = .ok (.ifCond .lt 16, 3) := by decide +kernel
theorem dX12_outside_122 : decode cX12_outside 122 = .ok (.aload_n 0, 1) := by decide +kernel
theorem dX12_outside_123 : decode cX12_outside 123 = .ok (.lload_n 2, 1) := by decide +kernel
theorem dX12_outside_124 : decode cX12_outside 124 = .ok (.invokestatic 259, 3) := by decide +kernel
theorem dX12_outside_127 : decode cX12_outside 127 = .ok (.invokevirtual 246, 3) := by decide +kernel
theorem dX12_outside_130 : decode cX12_outside 130 = .ok (.istore 4, 2) := by decide +kernel
theorem dX12_outside_132 : decode cX12_outside 132 = .ok (.goto 45, 3) := by decide +kernel
theorem dX12_outside_135 : decode cX12_outside 135 = .ok (.aload_n 0, 1) := by decide +kernel
theorem dX12_outside_136 : decode cX12_outside 136 = .ok (.lload_n 2, 1) := by decide +kernel
theorem dX12_outside_137 : decode cX12_outside 137 = .ok (.invokevirtual 287, 3) := by decide +kernel
theorem dX12_outside_140 : decode cX12_outside 140 = .ok (.ifCond .lt 32, 3) := by decide +kernel
theorem dX12_outside_143 : decode cX12_outside 143 = .ok (.aload_n 0, 1) := by decide +kernel
theorem dX12_outside_144 : decode cX12_outside 144 = .ok (.aload_n 0, 1) := by decide +kernel
theorem dX12_outside_145 : decode cX12_outside 145 = .ok (.lload_n 2, 1) := by decide +kernel
theorem dX12_outside_146 : decode cX12_outside 146 = .ok (.invokevirtual 287, 3) := by decide +kernel
theorem dX12_outside_149 : decode cX12_outside 149 = .ok (.invokevirtual 233, 3) := by decide +kernel
theorem dX12_outside_152 : decode cX12_outside 152 = .ok (.ifCond .eq 14, 3) := by decide +kernel
theorem dX12_outside_155 : decode cX12_outside 155 = .ok (.aload_n 0, 1) := by decide +kernel
theorem dX12_outside_156 : decode cX12_outside 156 = .ok (.invokevirtual 299, 3) := by decide +kernel
theorem dX12_outside_159 : decode cX12_outside 159 = .ok (.ifCond .eq 7, 3) := by decide +kernel
theorem dX12_outside_162 : decode cX12_outside 162 = .ok (.iconst 1, 1) := by decide +kernel
theorem dX12_outside_163 : decode cX12_outside 163 = .ok (.goto 4, 3) := by decide +kernel
theorem dX12_outside_166 : decode cX12_outside 166 = .ok (.iconst 0, 1) := by decide +kernel
theorem dX12_outside_167 : decode cX12_outside 167 = .ok (.istore 4, 2) := by decide +kernel
theorem dX12_outside_169 : decode cX12_outside 169 = .ok (.goto 8, 3) := by decide +kernel
theorem dX12_outside_172 : decode cX12_outside 172 = .ok (.aload_n 0, 1) := by decide +kernel
theorem dX12_outside_173 : decode cX12_outside 173 = .ok (.iconst 1, 1) := by decide +kernel
theorem dX12_outside_174 : decode cX12_outside 174 = .ok (.putfield 175, 3) := by decide +kernel
theorem dX12_outside_177 : decode cX12_outside 177 = .ok (.iload_n 1, 1) := by decide +kernel
theorem dX12_outside_178 : decode cX12_outside 178 = .ok (.iconst 1, 1) := by decide +kernel
theorem dX12_outside_179 : decode cX12_outside 179 = .ok (.iadd, 1) := by decide +kernel
theorem dX12_outside_180 : decode cX12_outside 180 = .ok (.ireturn, 1) := by decide +kernel
theorem dX12_faultAt_0 : decode cX12_faultAt 0 = .ok (.aload_n 0, 1) := by decide +kernel
theorem dX12_faultAt_1 : decode cX12_faultAt 1 = .ok (.getfield 62, 3) := by decide +kernel
theorem dX12_faultAt_4 : decode cX12_faultAt 4 = .ok (.ireturn, 1) := by decide +kernel
theorem dX12_steps_0 : decode cX12_steps 0 = .ok (.aload_n 0, 1) := by decide +kernel
theorem dX12_steps_1 : decode cX12_steps 1 = .ok (.getfield 185, 3) := by decide +kernel
theorem dX12_steps_4 : decode cX12_steps 4 = .ok (.ireturn, 1) := by decide +kernel
theorem dX12_depth_0 : decode cX12_depth 0 = .ok (.aload_n 0, 1) := by decide +kernel
theorem dX12_depth_1 : decode cX12_depth 1 = .ok (.getfield 178, 3) := by decide +kernel
theorem dX12_depth_4 : decode cX12_depth 4 = .ok (.ireturn, 1) := by decide +kernel
theorem dX12_value_0 : decode cX12_value 0 = .ok (.iload_n 1, 1) := by decide +kernel
theorem dX12_value_1 : decode cX12_value 1 = .ok (.ifCond .lt 11, 3) := by decide +kernel
theorem dX12_value_4 : decode cX12_value 4 = .ok (.iload_n 1, 1) := by decide +kernel
theorem dX12_value_5 : decode cX12_value 5 = .ok (.aload_n 0, 1) := by decide +kernel
theorem dX12_value_6 : decode cX12_value 6 = .ok (.getfield 178, 3) := by decide +kernel
theorem dX12_value_9 : decode cX12_value 9 = .ok (.if_icmp .lt 9, 3) := by decide +kernel
theorem dX12_value_12 : decode cX12_value 12 = .ok (.ldc2_w 303, 3) := by decide +kernel
theorem dX12_value_15 : decode cX12_value 15 = .ok (.goto 17, 3) := by decide +kernel
theorem dX12_value_18 : decode cX12_value 18 = .ok (.aload_n 0, 1) := by decide +kernel
theorem dX12_value_19 : decode cX12_value 19 = .ok (.getfield 19, 3) := by decide +kernel
theorem dX12_value_22 : decode cX12_value 22 = .ok (.aload_n 0, 1) := by decide +kernel
theorem dX12_value_23 : decode cX12_value 23 = .ok (.getfield 178, 3) := by decide +kernel
theorem dX12_value_26 : decode cX12_value 26 = .ok (.iconst 1, 1) := by decide +kernel
theorem dX12_value_27 : decode cX12_value 27 = .ok (.isub, 1) := by decide +kernel
theorem dX12_value_28 : decode cX12_value 28 = .ok (.iload_n 1, 1) := by decide +kernel
theorem dX12_value_29 : decode cX12_value 29 = .ok (.isub, 1) := by decide +kernel
theorem dX12_value_30 : decode cX12_value 30 = .ok (.iaload, 1) := by decide +kernel
theorem dX12_value_31 : decode cX12_value 31 = .ok (.i2l, 1) := by decide +kernel
theorem dX12_value_32 : decode cX12_value 32 = .ok (.lreturn, 1) := by decide +kernel
theorem dX12_push_0 : decode cX12_push 0 = .ok (.aload_n 0, 1) := by decide +kernel
theorem dX12_push_1 : decode cX12_push 1 = .ok (.getfield 178, 3) := by decide +kernel
theorem dX12_push_4 : decode cX12_push 4 = .ok (.bipush 32, 2) := by decide +kernel
theorem dX12_push_6 : decode cX12_push 6 = .ok (.if_icmp .ne 5, 3) := by decide +kernel
theorem dX12_push_9 : decode cX12_push 9 = .ok (.iconst 0, 1) := by decide +kernel
theorem dX12_push_10 : decode cX12_push 10 = .ok (.ireturn, 1) := by decide +kernel
theorem dX12_push_11 : decode cX12_push 11 = .ok (.aload_n 0, 1) := by decide +kernel
theorem dX12_push_12 : decode cX12_push 12 = .ok (.iload_n 1, 1) := by decide +kernel
theorem dX12_push_13 : decode cX12_push 13 = .ok (.i2l, 1) := by decide +kernel
theorem dX12_push_14 : decode cX12_push 14 = .ok (.invokevirtual 194, 3) := by decide +kernel
theorem dX12_push_17 : decode cX12_push 17 = .ok (.iconst 1, 1) := by decide +kernel
theorem dX12_push_18 : decode cX12_push 18 = .ok (.ireturn, 1) := by decide +kernel
theorem dX12_cell_0 : decode cX12_cell 0 = .ok (.iload_n 1, 1) := by decide +kernel
theorem dX12_cell_1 : decode cX12_cell 1 = .ok (.ifCond .lt 9, 3) := by decide +kernel
theorem dX12_cell_4 : decode cX12_cell 4 = .ok (.iload_n 1, 1) := by decide +kernel
theorem dX12_cell_5 : decode cX12_cell 5 = .ok (.bipush 15, 2) := by decide +kernel
theorem dX12_cell_7 : decode cX12_cell 7 = .ok (.if_icmp .le 9, 3) := by decide +kernel
theorem dX12_cell_10 : decode cX12_cell 10 = .ok (.ldc2_w 303, 3) := by decide +kernel
theorem dX12_cell_13 : decode cX12_cell 13 = .ok (.goto 10, 3) := by decide +kernel
theorem dX12_cell_16 : decode cX12_cell 16 = .ok (.aload_n 0, 1) := by decide +kernel
theorem dX12_cell_17 : decode cX12_cell 17 = .ok (.getfield 22, 3) := by decide +kernel
theorem dX12_cell_20 : decode cX12_cell 20 = .ok (.iload_n 1, 1) := by decide +kernel
theorem dX12_cell_21 : decode cX12_cell 21 = .ok (.iaload, 1) := by decide +kernel
theorem dX12_cell_22 : decode cX12_cell 22 = .ok (.i2l, 1) := by decide +kernel
theorem dX12_cell_23 : decode cX12_cell 23 = .ok (.lreturn, 1) := by decide +kernel
theorem dX12_puts_0 : decode cX12_puts 0 = .ok (.aload_n 0, 1) := by decide +kernel
theorem dX12_puts_1 : decode cX12_puts 1 = .ok (.getfield 198, 3) := by decide +kernel
theorem dX12_puts_4 : decode cX12_puts 4 = .ok (.ireturn, 1) := by decide +kernel
theorem dX12_output_0 : decode cX12_output 0 = .ok (.iload_n 1, 1) := by decide +kernel
theorem dX12_output_1 : decode cX12_output 1 = .ok (.ifCond .lt 17, 3) := by decide +kernel
theorem dX12_output_4 : decode cX12_output 4 = .ok (.iload_n 1, 1) := by decide +kernel
theorem dX12_output_5 : decode cX12_output 5 = .ok (.bipush 15, 2) := by decide +kernel
theorem dX12_output_7 : decode cX12_output 7 = .ok (.if_icmp .gt 11, 3) := by decide +kernel
theorem dX12_output_10 : decode cX12_output 10 = .ok (.iload_n 1, 1) := by decide +kernel
theorem dX12_output_11 : decode cX12_output 11 = .ok (.aload_n 0, 1) := by decide +kernel
theorem dX12_output_12 : decode cX12_output 12 = .ok (.getfield 198, 3) := by decide +kernel
theorem dX12_output_15 : decode cX12_output 15 = .ok (.if_icmp .lt 9, 3) := by decide +kernel
theorem dX12_output_18 : decode cX12_output 18 = .ok (.ldc2_w 303, 3) := by decide +kernel
theorem dX12_output_21 : decode cX12_output 21 = .ok (.goto 10, 3) := by decide +kernel
theorem dX12_output_24 : decode cX12_output 24 = .ok (.aload_n 0, 1) := by decide +kernel
theorem dX12_output_25 : decode cX12_output 25 = .ok (.getfield 25, 3) := by decide +kernel
theorem dX12_output_28 : decode cX12_output 28 = .ok (.iload_n 1, 1) := by decide +kernel
theorem dX12_output_29 : decode cX12_output 29 = .ok (.iaload, 1) := by decide +kernel
theorem dX12_output_30 : decode cX12_output 30 = .ok (.i2l, 1) := by decide +kernel
theorem dX12_output_31 : decode cX12_output 31 = .ok (.lreturn, 1) := by decide +kernel
theorem dX12_definitions_0 : decode cX12_definitions 0 = .ok (.aload_n 0, 1) := by decide +kernel
theorem dX12_definitions_1 : decode cX12_definitions 1 = .ok (.getfield 172, 3) := by decide +kernel
theorem dX12_definitions_4 : decode cX12_definitions 4 = .ok (.ireturn, 1) := by decide +kernel
theorem dX12_body_0 : decode cX12_body 0 = .ok (.iload_n 1, 1) := by decide +kernel
theorem dX12_body_1 : decode cX12_body 1 = .ok (.ifCond .lt 11, 3) := by decide +kernel
theorem dX12_body_4 : decode cX12_body 4 = .ok (.iload_n 1, 1) := by decide +kernel
theorem dX12_body_5 : decode cX12_body 5 = .ok (.aload_n 0, 1) := by decide +kernel
theorem dX12_body_6 : decode cX12_body 6 = .ok (.getfield 172, 3) := by decide +kernel
theorem dX12_body_9 : decode cX12_body 9 = .ok (.if_icmp .lt 7, 3) := by decide +kernel
theorem dX12_body_12 : decode cX12_body 12 = .ok (.iconst (-1), 1) := by decide +kernel
theorem dX12_body_13 : decode cX12_body 13 = .ok (.goto 9, 3) := by decide +kernel
theorem dX12_body_16 : decode cX12_body 16 = .ok (.aload_n 0, 1) := by decide +kernel
theorem dX12_body_17 : decode cX12_body 17 = .ok (.getfield 35, 3) := by decide +kernel
theorem dX12_body_20 : decode cX12_body 20 = .ok (.iload_n 1, 1) := by decide +kernel
theorem dX12_body_21 : decode cX12_body 21 = .ok (.iaload, 1) := by decide +kernel
theorem dX12_body_22 : decode cX12_body 22 = .ok (.ireturn, 1) := by decide +kernel
theorem dX12_name_0 : decode cX12_name 0 = .ok (.iload_n 1, 1) := by decide +kernel
theorem dX12_name_1 : decode cX12_name 1 = .ok (.ifCond .lt 11, 3) := by decide +kernel
theorem dX12_name_4 : decode cX12_name 4 = .ok (.iload_n 1, 1) := by decide +kernel
theorem dX12_name_5 : decode cX12_name 5 = .ok (.aload_n 0, 1) := by decide +kernel
theorem dX12_name_6 : decode cX12_name 6 = .ok (.getfield 172, 3) := by decide +kernel
theorem dX12_name_9 : decode cX12_name 9 = .ok (.if_icmp .lt 9, 3) := by decide +kernel
theorem dX12_name_12 : decode cX12_name 12 = .ok (.ldc2_w 72, 3) := by decide +kernel
theorem dX12_name_15 : decode cX12_name 15 = .ok (.goto 9, 3) := by decide +kernel
theorem dX12_name_18 : decode cX12_name 18 = .ok (.aload_n 0, 1) := by decide +kernel
theorem dX12_name_19 : decode cX12_name 19 = .ok (.getfield 28, 3) := by decide +kernel
theorem dX12_name_22 : decode cX12_name 22 = .ok (.iload_n 1, 1) := by decide +kernel
theorem dX12_name_23 : decode cX12_name 23 = .ok (.laload, 1) := by decide +kernel
theorem dX12_name_24 : decode cX12_name 24 = .ok (.lreturn, 1) := by decide +kernel
theorem dJ9_floorDiv_7cf53_0 : decode cJ9_floorDiv_7cf53 0 = .ok (.iload_n 0, 1) := by decide +kernel
theorem dJ9_floorDiv_7cf53_1 : decode cJ9_floorDiv_7cf53 1 = .ok (.iload_n 1, 1) := by decide +kernel
theorem dJ9_floorDiv_7cf53_2 : decode cJ9_floorDiv_7cf53 2 = .ok (.idiv, 1) := by decide +kernel
theorem dJ9_floorDiv_7cf53_3 : decode cJ9_floorDiv_7cf53 3 = .ok (.istore_n 2, 1) := by decide +kernel
theorem dJ9_floorDiv_7cf53_4 : decode cJ9_floorDiv_7cf53 4 = .ok (.iload_n 0, 1) := by decide +kernel
theorem dJ9_floorDiv_7cf53_5 : decode cJ9_floorDiv_7cf53 5 = .ok (.iload_n 1, 1) := by decide +kernel
theorem dJ9_floorDiv_7cf53_6 : decode cJ9_floorDiv_7cf53 6 = .ok (.ixor, 1) := by decide +kernel
theorem dJ9_floorDiv_7cf53_7 : decode cJ9_floorDiv_7cf53 7 = .ok (.ifCond .ge 14, 3) := by decide +kernel
theorem dJ9_floorDiv_7cf53_10 : decode cJ9_floorDiv_7cf53 10 = .ok (.iload_n 2, 1) := by decide +kernel
theorem dJ9_floorDiv_7cf53_11 : decode cJ9_floorDiv_7cf53 11 = .ok (.iload_n 1, 1) := by decide +kernel
theorem dJ9_floorDiv_7cf53_12 : decode cJ9_floorDiv_7cf53 12 = .ok (.imul, 1) := by decide +kernel
theorem dJ9_floorDiv_7cf53_13 : decode cJ9_floorDiv_7cf53 13 = .ok (.iload_n 0, 1) := by decide +kernel
theorem dJ9_floorDiv_7cf53_14 : decode cJ9_floorDiv_7cf53 14 = .ok (.if_icmp .eq 7, 3) := by decide +kernel
theorem dJ9_floorDiv_7cf53_17 : decode cJ9_floorDiv_7cf53 17 = .ok (.iload_n 2, 1) := by decide +kernel
theorem dJ9_floorDiv_7cf53_18 : decode cJ9_floorDiv_7cf53 18 = .ok (.iconst 1, 1) := by decide +kernel
theorem dJ9_floorDiv_7cf53_19 : decode cJ9_floorDiv_7cf53 19 = .ok (.isub, 1) := by decide +kernel
theorem dJ9_floorDiv_7cf53_20 : decode cJ9_floorDiv_7cf53 20 = .ok (.ireturn, 1) := by decide +kernel
theorem dJ9_floorDiv_7cf53_21 : decode cJ9_floorDiv_7cf53 21 = .ok (.iload_n 2, 1) := by decide +kernel
theorem dJ9_floorDiv_7cf53_22 : decode cJ9_floorDiv_7cf53 22 = .ok (.ireturn, 1) := by decide +kernel
theorem dJ9_max_7cf53_0 : decode cJ9_max_7cf53 0 = .ok (.iload_n 0, 1) := by decide +kernel
theorem dJ9_max_7cf53_1 : decode cJ9_max_7cf53 1 = .ok (.iload_n 1, 1) := by decide +kernel
theorem dJ9_max_7cf53_2 : decode cJ9_max_7cf53 2 = .ok (.if_icmp .lt 7, 3) := by decide +kernel
theorem dJ9_max_7cf53_5 : decode cJ9_max_7cf53 5 = .ok (.iload_n 0, 1) := by decide +kernel
theorem dJ9_max_7cf53_6 : decode cJ9_max_7cf53 6 = .ok (.goto 4, 3) := by decide +kernel
theorem dJ9_max_7cf53_9 : decode cJ9_max_7cf53 9 = .ok (.iload_n 1, 1) := by decide +kernel
theorem dJ9_max_7cf53_10 : decode cJ9_max_7cf53 10 = .ok (.ireturn, 1) := by decide +kernel
theorem dJ9_min_7cf53_0 : decode cJ9_min_7cf53 0 = .ok (.iload_n 0, 1) := by decide +kernel
theorem dJ9_min_7cf53_1 : decode cJ9_min_7cf53 1 = .ok (.iload_n 1, 1) := by decide +kernel
theorem dJ9_min_7cf53_2 : decode cJ9_min_7cf53 2 = .ok (.if_icmp .gt 7, 3) := by decide +kernel
theorem dJ9_min_7cf53_5 : decode cJ9_min_7cf53 5 = .ok (.iload_n 0, 1) := by decide +kernel
theorem dJ9_min_7cf53_6 : decode cJ9_min_7cf53 6 = .ok (.goto 4, 3) := by decide +kernel
theorem dJ9_min_7cf53_9 : decode cJ9_min_7cf53 9 = .ok (.iload_n 1, 1) := by decide +kernel
theorem dJ9_min_7cf53_10 : decode cJ9_min_7cf53 10 = .ok (.ireturn, 1) := by decide +kernel
theorem dJ0_length_8abf5_0 : decode cJ0_length_8abf5 0 = .ok (.aload_n 0, 1) := by decide +kernel
theorem dJ0_length_8abf5_1 : decode cJ0_length_8abf5 1 = .ok (.getfield 9, 3) := by decide +kernel
theorem dJ0_length_8abf5_4 : decode cJ0_length_8abf5 4 = .ok (.arraylength, 1) := by decide +kernel
theorem dJ0_length_8abf5_5 : decode cJ0_length_8abf5 5 = .ok (.aload_n 0, 1) := by decide +kernel
theorem dJ0_length_8abf5_6 : decode cJ0_length_8abf5 6 = .ok (.invokevirtual 335, 3) := by decide +kernel
theorem dJ0_length_8abf5_9 : decode cJ0_length_8abf5 9 = .ok (.ishr, 1) := by decide +kernel
theorem dJ0_length_8abf5_10 : decode cJ0_length_8abf5 10 = .ok (.ireturn, 1) := by decide +kernel
theorem dJ0_charAt_5068e_0 : decode cJ0_charAt_5068e 0 = .ok (.aload_n 0, 1) := by decide +kernel
theorem dJ0_charAt_5068e_1 : decode cJ0_charAt_5068e 1 = .ok (.invokevirtual 492, 3) := by decide +kernel
theorem dJ0_charAt_5068e_4 : decode cJ0_charAt_5068e 4 = .ok (.ifCond .eq 12, 3) := by decide +kernel
theorem dJ0_charAt_5068e_7 : decode cJ0_charAt_5068e 7 = .ok (.aload_n 0, 1) := by decide +kernel
theorem dJ0_charAt_5068e_8 : decode cJ0_charAt_5068e 8 = .ok (.getfield 9, 3) := by decide +kernel
theorem dJ0_charAt_5068e_11 : decode cJ0_charAt_5068e 11 = .ok (.iload_n 1, 1) := by decide +kernel
theorem dJ0_charAt_5068e_12 : decode cJ0_charAt_5068e 12 = .ok (.invokestatic 495, 3) := by decide +kernel
theorem dJ0_charAt_5068e_15 : decode cJ0_charAt_5068e 15 = .ok (.ireturn, 1) := by decide +kernel
theorem dJ0_charAt_5068e_16 : decode cJ0_charAt_5068e 16 = .ok (.aload_n 0, 1) := by decide +kernel
theorem dJ0_charAt_5068e_17 : decode cJ0_charAt_5068e 17 = .ok (.getfield 9, 3) := by decide +kernel
theorem dJ0_charAt_5068e_20 : decode cJ0_charAt_5068e 20 = .ok (.iload_n 1, 1) := by decide +kernel
theorem dJ0_charAt_5068e_21 : decode cJ0_charAt_5068e 21 = .ok (.invokestatic 498, 3) := by decide +kernel
theorem dJ0_charAt_5068e_24 : decode cJ0_charAt_5068e 24 = .ok (.ireturn, 1) := by decide +kernel
theorem dJ0_coder_7d493_0 : decode cJ0_coder_7d493 0 = .ok (.getstatic 38, 3) := by decide +kernel
theorem dJ0_coder_7d493_3 : decode cJ0_coder_7d493 3 = .ok (.ifCond .eq 10, 3) := by decide +kernel
theorem dJ0_coder_7d493_6 : decode cJ0_coder_7d493 6 = .ok (.aload_n 0, 1) := by decide +kernel
theorem dJ0_coder_7d493_7 : decode cJ0_coder_7d493 7 = .ok (.getfield 15, 3) := by decide +kernel
theorem dJ0_coder_7d493_10 : decode cJ0_coder_7d493 10 = .ok (.goto 4, 3) := by decide +kernel
theorem dJ0_coder_7d493_13 : decode cJ0_coder_7d493 13 = .ok (.iconst 1, 1) := by decide +kernel
theorem dJ0_coder_7d493_14 : decode cJ0_coder_7d493 14 = .ok (.ireturn, 1) := by decide +kernel
theorem dJ0_isLatin1_aae02_0 : decode cJ0_isLatin1_aae02 0 = .ok (.getstatic 38, 3) := by decide +kernel
theorem dJ0_isLatin1_aae02_3 : decode cJ0_isLatin1_aae02 3 = .ok (.ifCond .eq 14, 3) := by decide +kernel
theorem dJ0_isLatin1_aae02_6 : decode cJ0_isLatin1_aae02 6 = .ok (.aload_n 0, 1) := by decide +kernel
theorem dJ0_isLatin1_aae02_7 : decode cJ0_isLatin1_aae02 7 = .ok (.getfield 15, 3) := by decide +kernel
theorem dJ0_isLatin1_aae02_10 : decode cJ0_isLatin1_aae02 10 = .ok (.ifCond .ne 7, 3) := by decide +kernel
theorem dJ0_isLatin1_aae02_13 : decode cJ0_isLatin1_aae02 13 = .ok (.iconst 1, 1) := by decide +kernel
theorem dJ0_isLatin1_aae02_14 : decode cJ0_isLatin1_aae02 14 = .ok (.goto 4, 3) := by decide +kernel
theorem dJ0_isLatin1_aae02_17 : decode cJ0_isLatin1_aae02 17 = .ok (.iconst 0, 1) := by decide +kernel
theorem dJ0_isLatin1_aae02_18 : decode cJ0_isLatin1_aae02 18 = .ok (.ireturn, 1) := by decide +kernel
theorem dJ0_checkIndex_df160_0 : decode cJ0_checkIndex_df160 0 = .ok (.iload_n 0, 1) := by decide +kernel
theorem dJ0_checkIndex_df160_1 : decode cJ0_checkIndex_df160 1 = .ok (.iload_n 1, 1) := by decide +kernel
theorem dJ0_checkIndex_df160_2 : decode cJ0_checkIndex_df160 2 = .ok (.getstatic 1053, 3) := by decide +kernel
theorem dJ0_checkIndex_df160_5 : decode cJ0_checkIndex_df160 5 = .ok (.invokestatic 1059, 3) := by decide +kernel
theorem dJ0_checkIndex_df160_8 : decode cJ0_checkIndex_df160 8 = .ok (.pop, 1) := by decide +kernel
theorem dJ0_checkIndex_df160_9 : decode cJ0_checkIndex_df160 9 = .ok (.return_, 1) := by decide +kernel
theorem dJ1_charAt_3b067_0 : decode cJ1_charAt_3b067 0 = .ok (.iload_n 1, 1) := by decide +kernel
theorem dJ1_charAt_3b067_1 : decode cJ1_charAt_3b067 1 = .ok (.aload_n 0, 1) := by decide +kernel
theorem dJ1_charAt_3b067_2 : decode cJ1_charAt_3b067 2 = .ok (.arraylength, 1) := by decide +kernel
theorem dJ1_charAt_3b067_3 : decode cJ1_charAt_3b067 3 = .ok (.invokestatic 9, 3) := by decide +kernel
theorem dJ1_charAt_3b067_6 : decode cJ1_charAt_3b067 6 = .ok (.aload_n 0, 1) := by decide +kernel
theorem dJ1_charAt_3b067_7 : decode cJ1_charAt_3b067 7 = .ok (.iload_n 1, 1) := by decide +kernel
theorem dJ1_charAt_3b067_8 : decode cJ1_charAt_3b067 8 = .ok (.baload, 1) := by decide +kernel
theorem dJ1_charAt_3b067_9 : decode cJ1_charAt_3b067 9 = .ok (.sipush 255, 3) := by decide +kernel
theorem dJ1_charAt_3b067_12 : decode cJ1_charAt_3b067 12 = .ok (.iand, 1) := by decide +kernel
theorem dJ1_charAt_3b067_13 : decode cJ1_charAt_3b067 13 = .ok (.i2c, 1) := by decide +kernel
theorem dJ1_charAt_3b067_14 : decode cJ1_charAt_3b067 14 = .ok (.ireturn, 1) := by decide +kernel
theorem dJ2_getChar_3b067_0 : decode cJ2_getChar_3b067 0 = .ok (.getstatic 44, 3) := by decide +kernel
theorem dJ2_getChar_3b067_3 : decode cJ2_getChar_3b067 3 = .ok (.ifCond .ne 25, 3) := by decide +kernel
theorem dJ2_getChar_3b067_6 : decode cJ2_getChar_3b067 6 = .ok (.iload_n 1, 1) := by decide +kernel
theorem dJ2_getChar_3b067_7 : decode cJ2_getChar_3b067 7 = .ok (.ifCond .lt 11, 3) := by decide +kernel
theorem dJ2_getChar_3b067_10 : decode cJ2_getChar_3b067 10 = .ok (.iload_n 1, 1) := by decide +kernel
theorem dJ2_getChar_3b067_11 : decode cJ2_getChar_3b067 11 = .ok (.aload_n 0, 1) := by decide +kernel
theorem dJ2_getChar_3b067_12 : decode cJ2_getChar_3b067 12 = .ok (.invokestatic 48, 3) := by decide +kernel
theorem dJ2_getChar_3b067_15 : decode cJ2_getChar_3b067 15 = .ok (.if_icmp .lt 13, 3) := by decide +kernel
theorem dJ2_getChar_3b067_18 : decode cJ2_getChar_3b067 18 = .ok (.new 52, 3) := by decide +kernel
theorem dJ2_getChar_3b067_21 : decode cJ2_getChar_3b067 21 = .ok (.dup, 1) := by decide +kernel
theorem dJ2_getChar_3b067_22 : decode cJ2_getChar_3b067 22 = .ok (.ldc 54, 2) := by decide +kernel
theorem dJ2_getChar_3b067_24 : decode cJ2_getChar_3b067 24 = .ok (.invokespecial 56, 3) := by decide +kernel
theorem dJ2_getChar_3b067_27 : decode cJ2_getChar_3b067 27 = .ok (.athrow, 1) := by decide +kernel
theorem dJ2_getChar_3b067_28 : decode cJ2_getChar_3b067 28 = .ok (.iload_n 1, 1) := by decide +kernel
theorem dJ2_getChar_3b067_29 : decode cJ2_getChar_3b067 29 = .ok (.iconst 1, 1) := by decide +kernel
theorem dJ2_getChar_3b067_30 : decode cJ2_getChar_3b067 30 = .ok (.ishl, 1) := by decide +kernel
theorem dJ2_getChar_3b067_31 : decode cJ2_getChar_3b067 31 = .ok (.istore_n 1, 1) := by decide +kernel
theorem dJ2_getChar_3b067_32 : decode cJ2_getChar_3b067 32 = .ok (.aload_n 0, 1) := by decide +kernel
theorem dJ2_getChar_3b067_33 : decode cJ2_getChar_3b067 33 = .ok (.iload_n 1, 1) := by decide +kernel
theorem dJ2_getChar_3b067_34 : decode cJ2_getChar_3b067 34 = .ok (.iinc 1 1, 3) := by decide +kernel
theorem dJ2_getChar_3b067_37 : decode cJ2_getChar_3b067 37 = .ok (.baload, 1) := by decide +kernel
theorem dJ2_getChar_3b067_38 : decode cJ2_getChar_3b067 38 = .ok (.sipush 255, 3) := by decide +kernel
theorem dJ2_getChar_3b067_41 : decode cJ2_getChar_3b067 41 = .ok (.iand, 1) := by decide +kernel
theorem dJ2_getChar_3b067_42 : decode cJ2_getChar_3b067 42 = .ok (.getstatic 59, 3) := by decide +kernel
theorem dJ2_getChar_3b067_45 : decode cJ2_getChar_3b067 45 = .ok (.ishl, 1) := by decide +kernel
theorem dJ2_getChar_3b067_46 : decode cJ2_getChar_3b067 46 = .ok (.aload_n 0, 1) := by decide +kernel
theorem dJ2_getChar_3b067_47 : decode cJ2_getChar_3b067 47 = .ok (.iload_n 1, 1) := by decide +kernel
theorem dJ2_getChar_3b067_48 : decode cJ2_getChar_3b067 48 = .ok (.baload, 1) := by decide +kernel
theorem dJ2_getChar_3b067_49 : decode cJ2_getChar_3b067 49 = .ok (.sipush 255, 3) := by decide +kernel
theorem dJ2_getChar_3b067_52 : decode cJ2_getChar_3b067 52 = .ok (.iand, 1) := by decide +kernel
theorem dJ2_getChar_3b067_53 : decode cJ2_getChar_3b067 53 = .ok (.getstatic 63, 3) := by decide +kernel
theorem dJ2_getChar_3b067_56 : decode cJ2_getChar_3b067 56 = .ok (.ishl, 1) := by decide +kernel
theorem dJ2_getChar_3b067_57 : decode cJ2_getChar_3b067 57 = .ok (.ior, 1) := by decide +kernel
theorem dJ2_getChar_3b067_58 : decode cJ2_getChar_3b067 58 = .ok (.i2c, 1) := by decide +kernel
theorem dJ2_getChar_3b067_59 : decode cJ2_getChar_3b067 59 = .ok (.ireturn, 1) := by decide +kernel
theorem dJ2_length_9d52b_0 : decode cJ2_length_9d52b 0 = .ok (.aload_n 0, 1) := by decide +kernel
theorem dJ2_length_9d52b_1 : decode cJ2_length_9d52b 1 = .ok (.arraylength, 1) := by decide +kernel
theorem dJ2_length_9d52b_2 : decode cJ2_length_9d52b 2 = .ok (.iconst 1, 1) := by decide +kernel
theorem dJ2_length_9d52b_3 : decode cJ2_length_9d52b 3 = .ok (.ishr, 1) := by decide +kernel
theorem dJ2_length_9d52b_4 : decode cJ2_length_9d52b 4 = .ok (.ireturn, 1) := by decide +kernel
theorem dJ2_charAt_3b067_0 : decode cJ2_charAt_3b067 0 = .ok (.iload_n 1, 1) := by decide +kernel
theorem dJ2_charAt_3b067_1 : decode cJ2_charAt_3b067 1 = .ok (.aload_n 0, 1) := by decide +kernel
theorem dJ2_charAt_3b067_2 : decode cJ2_charAt_3b067 2 = .ok (.invokestatic 67, 3) := by decide +kernel
theorem dJ2_charAt_3b067_5 : decode cJ2_charAt_3b067 5 = .ok (.aload_n 0, 1) := by decide +kernel
theorem dJ2_charAt_3b067_6 : decode cJ2_charAt_3b067 6 = .ok (.iload_n 1, 1) := by decide +kernel
theorem dJ2_charAt_3b067_7 : decode cJ2_charAt_3b067 7 = .ok (.invokestatic 71, 3) := by decide +kernel
theorem dJ2_charAt_3b067_10 : decode cJ2_charAt_3b067 10 = .ok (.ireturn, 1) := by decide +kernel
theorem dJ2_checkIndex_2214a_0 : decode cJ2_checkIndex_2214a 0 = .ok (.iload_n 0, 1) := by decide +kernel
theorem dJ2_checkIndex_2214a_1 : decode cJ2_checkIndex_2214a 1 = .ok (.aload_n 1, 1) := by decide +kernel
theorem dJ2_checkIndex_2214a_2 : decode cJ2_checkIndex_2214a 2 = .ok (.invokestatic 48, 3) := by decide +kernel
theorem dJ2_checkIndex_2214a_5 : decode cJ2_checkIndex_2214a 5 = .ok (.invokestatic 414, 3) := by decide +kernel
theorem dJ2_checkIndex_2214a_8 : decode cJ2_checkIndex_2214a 8 = .ok (.return_, 1) := by decide +kernel
theorem dJ3_checkIndex_8e157_0 : decode cJ3_checkIndex_8e157 0 = .ok (.iload_n 0, 1) := by decide +kernel
theorem dJ3_checkIndex_8e157_1 : decode cJ3_checkIndex_8e157 1 = .ok (.ifCond .lt 8, 3) := by decide +kernel
theorem dJ3_checkIndex_8e157_4 : decode cJ3_checkIndex_8e157 4 = .ok (.iload_n 0, 1) := by decide +kernel
theorem dJ3_checkIndex_8e157_5 : decode cJ3_checkIndex_8e157 5 = .ok (.iload_n 1, 1) := by decide +kernel
theorem dJ3_checkIndex_8e157_6 : decode cJ3_checkIndex_8e157 6 = .ok (.if_icmp .lt 10, 3) := by decide +kernel
theorem dJ3_checkIndex_8e157_9 : decode cJ3_checkIndex_8e157 9 = .ok (.aload_n 2, 1) := by decide +kernel
theorem dJ3_checkIndex_8e157_10 : decode cJ3_checkIndex_8e157 10 = .ok (.iload_n 0, 1) := by decide +kernel
theorem dJ3_checkIndex_8e157_11 : decode cJ3_checkIndex_8e157 11 = .ok (.iload_n 1, 1) := by decide +kernel
theorem dJ3_checkIndex_8e157_12 : decode cJ3_checkIndex_8e157 12 = .ok (.invokestatic 95, 3) := by decide +kernel
theorem dJ3_checkIndex_8e157_15 : decode cJ3_checkIndex_8e157 15 = .ok (.athrow, 1) := by decide +kernel
theorem dJ3_checkIndex_8e157_16 : decode cJ3_checkIndex_8e157 16 = .ok (.iload_n 0, 1) := by decide +kernel
theorem dJ3_checkIndex_8e157_17 : decode cJ3_checkIndex_8e157 17 = .ok (.ireturn, 1) := by decide +kernel
theorem dL_law_0 : decode cL_law 0 = .ok (.new 7, 3) := by decide +kernel
theorem dL_law_3 : decode cL_law 3 = .ok (.dup, 1) := by decide +kernel
theorem dL_law_4 : decode cL_law 4 = .ok (.invokespecial 9, 3) := by decide +kernel
theorem dL_law_7 : decode cL_law 7 = .ok (.astore_n 1, 1) := by decide +kernel
theorem dL_law_8 : decode cL_law 8 = .ok (.new 10, 3) := by decide +kernel
theorem dL_law_11 : decode cL_law 11 = .ok (.dup, 1) := by decide +kernel
theorem dL_law_12 : decode cL_law 12 = .ok (.invokespecial 12, 3) := by decide +kernel
theorem dL_law_15 : decode cL_law 15 = .ok (.astore_n 2, 1) := by decide +kernel
theorem dL_law_16 : decode cL_law 16 = .ok (.iconst 0, 1) := by decide +kernel
theorem dL_law_17 : decode cL_law 17 = .ok (.istore_n 3, 1) := by decide +kernel
theorem dL_law_18 : decode cL_law 18 = .ok (.iload_n 3, 1) := by decide +kernel
theorem dL_law_19 : decode cL_law 19 = .ok (.aload_n 0, 1) := by decide +kernel
theorem dL_law_20 : decode cL_law 20 = .ok (.arraylength, 1) := by decide +kernel
theorem dL_law_21 : decode cL_law 21 = .ok (.iconst 2, 1) := by decide +kernel
theorem dL_law_22 : decode cL_law 22 = .ok (.isub, 1) := by decide +kernel
theorem dL_law_23 : decode cL_law 23 = .ok (.if_icmp .gt 341, 3) := by decide +kernel
theorem dL_law_26 : decode cL_law 26 = .ok (.aload_n 0, 1) := by decide +kernel
theorem dL_law_27 : decode cL_law 27 = .ok (.iload_n 3, 1) := by decide +kernel
theorem dL_law_28 : decode cL_law 28 = .ok (.iaload, 1) := by decide +kernel
theorem dL_law_29 : decode cL_law 29 = .ok (.bipush 15, 2) := by decide +kernel
theorem dL_law_31 : decode cL_law 31 = .ok (.iand, 1) := by decide +kernel
theorem dL_law_32 : decode cL_law 32 = .ok (.tableswitch 326 0 13 #[72, 95, 106, 119, 132, 145, 158, 182, 205, 229, 242, 266, 279, 302], 72) := by decide +kernel
theorem dL_law_104 : decode cL_law 104 = .ok (.aload_n 1, 1) := by decide +kernel
theorem dL_law_105 : decode cL_law 105 = .ok (.aload_n 0, 1) := by decide +kernel
theorem dL_law_106 : decode cL_law 106 = .ok (.iload_n 3, 1) := by decide +kernel
theorem dL_law_107 : decode cL_law 107 = .ok (.iconst 1, 1) := by decide +kernel
theorem dL_law_108 : decode cL_law 108 = .ok (.iadd, 1) := by decide +kernel
theorem dL_law_109 : decode cL_law 109 = .ok (.iaload, 1) := by decide +kernel
theorem dL_law_110 : decode cL_law 110 = .ok (.invokevirtual 13, 3) := by decide +kernel
theorem dL_law_113 : decode cL_law 113 = .ok (.aload_n 2, 1) := by decide +kernel
theorem dL_law_114 : decode cL_law 114 = .ok (.aload_n 0, 1) := by decide +kernel
theorem dL_law_115 : decode cL_law 115 = .ok (.iload_n 3, 1) := by decide +kernel
theorem dL_law_116 : decode cL_law 116 = .ok (.iconst 1, 1) := by decide +kernel
theorem dL_law_117 : decode cL_law 117 = .ok (.iadd, 1) := by decide +kernel
theorem dL_law_118 : decode cL_law 118 = .ok (.iaload, 1) := by decide +kernel
theorem dL_law_119 : decode cL_law 119 = .ok (.invokevirtual 17, 3) := by decide +kernel
theorem dL_law_122 : decode cL_law 122 = .ok (.if_icmp .eq 236, 3) := by decide +kernel
theorem dL_law_125 : decode cL_law 125 = .ok (.iconst 0, 1) := by decide +kernel
theorem dL_law_126 : decode cL_law 126 = .ok (.ireturn, 1) := by decide +kernel
theorem dL_law_127 : decode cL_law 127 = .ok (.aload_n 1, 1) := by decide +kernel
theorem dL_law_128 : decode cL_law 128 = .ok (.invokevirtual 18, 3) := by decide +kernel
theorem dL_law_131 : decode cL_law 131 = .ok (.aload_n 2, 1) := by decide +kernel
theorem dL_law_132 : decode cL_law 132 = .ok (.invokevirtual 21, 3) := by decide +kernel
theorem dL_law_135 : decode cL_law 135 = .ok (.goto 223, 3) := by decide +kernel
theorem dL_law_138 : decode cL_law 138 = .ok (.aload_n 1, 1) := by decide +kernel
theorem dL_law_139 : decode cL_law 139 = .ok (.invokevirtual 22, 3) := by decide +kernel
theorem dL_law_142 : decode cL_law 142 = .ok (.aload_n 2, 1) := by decide +kernel
theorem dL_law_143 : decode cL_law 143 = .ok (.invokevirtual 26, 3) := by decide +kernel
theorem dL_law_146 : decode cL_law 146 = .ok (.if_icmp .eq 212, 3) := by decide +kernel
theorem dL_law_149 : decode cL_law 149 = .ok (.iconst 0, 1) := by decide +kernel
theorem dL_law_150 : decode cL_law 150 = .ok (.ireturn, 1) := by decide +kernel
theorem dL_law_151 : decode cL_law 151 = .ok (.aload_n 1, 1) := by decide +kernel
theorem dL_law_152 : decode cL_law 152 = .ok (.invokevirtual 27, 3) := by decide +kernel
theorem dL_law_155 : decode cL_law 155 = .ok (.aload_n 2, 1) := by decide +kernel
theorem dL_law_156 : decode cL_law 156 = .ok (.invokevirtual 30, 3) := by decide +kernel
theorem dL_law_159 : decode cL_law 159 = .ok (.if_icmp .eq 199, 3) := by decide +kernel
theorem dL_law_162 : decode cL_law 162 = .ok (.iconst 0, 1) := by decide +kernel
theorem dL_law_163 : decode cL_law 163 = .ok (.ireturn, 1) := by decide +kernel
theorem dL_law_164 : decode cL_law 164 = .ok (.aload_n 1, 1) := by decide +kernel
theorem dL_law_165 : decode cL_law 165 = .ok (.invokevirtual 31, 3) := by decide +kernel
theorem dL_law_168 : decode cL_law 168 = .ok (.aload_n 2, 1) := by decide +kernel
theorem dL_law_169 : decode cL_law 169 = .ok (.invokevirtual 34, 3) := by decide +kernel
theorem dL_law_172 : decode cL_law 172 = .ok (.if_icmp .eq 186, 3) := by decide +kernel
theorem dL_law_175 : decode cL_law 175 = .ok (.iconst 0, 1) := by decide +kernel
theorem dL_law_176 : decode cL_law 176 = .ok (.ireturn, 1) := by decide +kernel
theorem dL_law_177 : decode cL_law 177 = .ok (.aload_n 1, 1) := by decide +kernel
theorem dL_law_178 : decode cL_law 178 = .ok (.invokevirtual 35, 3) := by decide +kernel
theorem dL_law_181 : decode cL_law 181 = .ok (.aload_n 2, 1) := by decide +kernel
theorem dL_law_182 : decode cL_law 182 = .ok (.invokevirtual 38, 3) := by decide +kernel
theorem dL_law_185 : decode cL_law 185 = .ok (.if_icmp .eq 173, 3) := by decide +kernel
theorem dL_law_188 : decode cL_law 188 = .ok (.iconst 0, 1) := by decide +kernel
theorem dL_law_189 : decode cL_law 189 = .ok (.ireturn, 1) := by decide +kernel
theorem dL_law_190 : decode cL_law 190 = .ok (.aload_n 1, 1) := by decide +kernel
theorem dL_law_191 : decode cL_law 191 = .ok (.aload_n 0, 1) := by decide +kernel
theorem dL_law_192 : decode cL_law 192 = .ok (.iload_n 3, 1) := by decide +kernel
theorem dL_law_193 : decode cL_law 193 = .ok (.iconst 1, 1) := by decide +kernel
theorem dL_law_194 : decode cL_law 194 = .ok (.iadd, 1) := by decide +kernel
theorem dL_law_195 : decode cL_law 195 = .ok (.iaload, 1) := by decide +kernel
theorem dL_law_196 : decode cL_law 196 = .ok (.invokevirtual 39, 3) := by decide +kernel
theorem dL_law_199 : decode cL_law 199 = .ok (.aload_n 2, 1) := by decide +kernel
theorem dL_law_200 : decode cL_law 200 = .ok (.aload_n 0, 1) := by decide +kernel
theorem dL_law_201 : decode cL_law 201 = .ok (.iload_n 3, 1) := by decide +kernel
theorem dL_law_202 : decode cL_law 202 = .ok (.iconst 1, 1) := by decide +kernel
theorem dL_law_203 : decode cL_law 203 = .ok (.iadd, 1) := by decide +kernel
theorem dL_law_204 : decode cL_law 204 = .ok (.iaload, 1) := by decide +kernel
theorem dL_law_205 : decode cL_law 205 = .ok (.invokevirtual 43, 3) := by decide +kernel
theorem dL_law_208 : decode cL_law 208 = .ok (.lcmp, 1) := by decide +kernel
theorem dL_law_209 : decode cL_law 209 = .ok (.ifCond .eq 149, 3) := by decide +kernel
theorem dL_law_212 : decode cL_law 212 = .ok (.iconst 0, 1) := by decide +kernel
theorem dL_law_213 : decode cL_law 213 = .ok (.ireturn, 1) := by decide +kernel
theorem dL_law_214 : decode cL_law 214 = .ok (.aload_n 1, 1) := by decide +kernel
theorem dL_law_215 : decode cL_law 215 = .ok (.aload_n 0, 1) := by decide +kernel
theorem dL_law_216 : decode cL_law 216 = .ok (.iload_n 3, 1) := by decide +kernel
theorem dL_law_217 : decode cL_law 217 = .ok (.iconst 1, 1) := by decide +kernel
theorem dL_law_218 : decode cL_law 218 = .ok (.iadd, 1) := by decide +kernel
theorem dL_law_219 : decode cL_law 219 = .ok (.iaload, 1) := by decide +kernel
theorem dL_law_220 : decode cL_law 220 = .ok (.invokevirtual 44, 3) := by decide +kernel
theorem dL_law_223 : decode cL_law 223 = .ok (.aload_n 2, 1) := by decide +kernel
theorem dL_law_224 : decode cL_law 224 = .ok (.aload_n 0, 1) := by decide +kernel
theorem dL_law_225 : decode cL_law 225 = .ok (.iload_n 3, 1) := by decide +kernel
theorem dL_law_226 : decode cL_law 226 = .ok (.iconst 1, 1) := by decide +kernel
theorem dL_law_227 : decode cL_law 227 = .ok (.iadd, 1) := by decide +kernel
theorem dL_law_228 : decode cL_law 228 = .ok (.iaload, 1) := by decide +kernel
theorem dL_law_229 : decode cL_law 229 = .ok (.invokevirtual 48, 3) := by decide +kernel
theorem dL_law_232 : decode cL_law 232 = .ok (.if_icmp .eq 126, 3) := by decide +kernel
theorem dL_law_235 : decode cL_law 235 = .ok (.iconst 0, 1) := by decide +kernel
theorem dL_law_236 : decode cL_law 236 = .ok (.ireturn, 1) := by decide +kernel
theorem dL_law_237 : decode cL_law 237 = .ok (.aload_n 1, 1) := by decide +kernel
theorem dL_law_238 : decode cL_law 238 = .ok (.aload_n 0, 1) := by decide +kernel
theorem dL_law_239 : decode cL_law 239 = .ok (.iload_n 3, 1) := by decide +kernel
theorem dL_law_240 : decode cL_law 240 = .ok (.iconst 1, 1) := by decide +kernel
theorem dL_law_241 : decode cL_law 241 = .ok (.iadd, 1) := by decide +kernel
theorem dL_law_242 : decode cL_law 242 = .ok (.iaload, 1) := by decide +kernel
theorem dL_law_243 : decode cL_law 243 = .ok (.invokevirtual 49, 3) := by decide +kernel
theorem dL_law_246 : decode cL_law 246 = .ok (.aload_n 2, 1) := by decide +kernel
theorem dL_law_247 : decode cL_law 247 = .ok (.aload_n 0, 1) := by decide +kernel
theorem dL_law_248 : decode cL_law 248 = .ok (.iload_n 3, 1) := by decide +kernel
theorem dL_law_249 : decode cL_law 249 = .ok (.iconst 1, 1) := by decide +kernel
theorem dL_law_250 : decode cL_law 250 = .ok (.iadd, 1) := by decide +kernel
theorem dL_law_251 : decode cL_law 251 = .ok (.iaload, 1) := by decide +kernel
theorem dL_law_252 : decode cL_law 252 = .ok (.invokevirtual 52, 3) := by decide +kernel
theorem dL_law_255 : decode cL_law 255 = .ok (.lcmp, 1) := by decide +kernel
theorem dL_law_256 : decode cL_law 256 = .ok (.ifCond .eq 102, 3) := by decide +kernel
theorem dL_law_259 : decode cL_law 259 = .ok (.iconst 0, 1) := by decide +kernel
theorem dL_law_260 : decode cL_law 260 = .ok (.ireturn, 1) := by decide +kernel
theorem dL_law_261 : decode cL_law 261 = .ok (.aload_n 1, 1) := by decide +kernel
theorem dL_law_262 : decode cL_law 262 = .ok (.invokevirtual 53, 3) := by decide +kernel
theorem dL_law_265 : decode cL_law 265 = .ok (.aload_n 2, 1) := by decide +kernel
theorem dL_law_266 : decode cL_law 266 = .ok (.invokevirtual 56, 3) := by decide +kernel
theorem dL_law_269 : decode cL_law 269 = .ok (.if_icmp .eq 89, 3) := by decide +kernel
theorem dL_law_272 : decode cL_law 272 = .ok (.iconst 0, 1) := by decide +kernel
theorem dL_law_273 : decode cL_law 273 = .ok (.ireturn, 1) := by decide +kernel
theorem dL_law_274 : decode cL_law 274 = .ok (.aload_n 1, 1) := by decide +kernel
theorem dL_law_275 : decode cL_law 275 = .ok (.aload_n 0, 1) := by decide +kernel
theorem dL_law_276 : decode cL_law 276 = .ok (.iload_n 3, 1) := by decide +kernel
theorem dL_law_277 : decode cL_law 277 = .ok (.iconst 1, 1) := by decide +kernel
theorem dL_law_278 : decode cL_law 278 = .ok (.iadd, 1) := by decide +kernel
theorem dL_law_279 : decode cL_law 279 = .ok (.iaload, 1) := by decide +kernel
theorem dL_law_280 : decode cL_law 280 = .ok (.invokevirtual 57, 3) := by decide +kernel
theorem dL_law_283 : decode cL_law 283 = .ok (.aload_n 2, 1) := by decide +kernel
theorem dL_law_284 : decode cL_law 284 = .ok (.aload_n 0, 1) := by decide +kernel
theorem dL_law_285 : decode cL_law 285 = .ok (.iload_n 3, 1) := by decide +kernel
theorem dL_law_286 : decode cL_law 286 = .ok (.iconst 1, 1) := by decide +kernel
theorem dL_law_287 : decode cL_law 287 = .ok (.iadd, 1) := by decide +kernel
theorem dL_law_288 : decode cL_law 288 = .ok (.iaload, 1) := by decide +kernel
theorem dL_law_289 : decode cL_law 289 = .ok (.invokevirtual 60, 3) := by decide +kernel
theorem dL_law_292 : decode cL_law 292 = .ok (.lcmp, 1) := by decide +kernel
theorem dL_law_293 : decode cL_law 293 = .ok (.ifCond .eq 65, 3) := by decide +kernel
theorem dL_law_296 : decode cL_law 296 = .ok (.iconst 0, 1) := by decide +kernel
theorem dL_law_297 : decode cL_law 297 = .ok (.ireturn, 1) := by decide +kernel
theorem dL_law_298 : decode cL_law 298 = .ok (.aload_n 1, 1) := by decide +kernel
theorem dL_law_299 : decode cL_law 299 = .ok (.invokevirtual 61, 3) := by decide +kernel
theorem dL_law_302 : decode cL_law 302 = .ok (.aload_n 2, 1) := by decide +kernel
theorem dL_law_303 : decode cL_law 303 = .ok (.invokevirtual 64, 3) := by decide +kernel
theorem dL_law_306 : decode cL_law 306 = .ok (.if_icmp .eq 52, 3) := by decide +kernel
theorem dL_law_309 : decode cL_law 309 = .ok (.iconst 0, 1) := by decide +kernel
theorem dL_law_310 : decode cL_law 310 = .ok (.ireturn, 1) := by decide +kernel
theorem dL_law_311 : decode cL_law 311 = .ok (.aload_n 1, 1) := by decide +kernel
theorem dL_law_312 : decode cL_law 312 = .ok (.aload_n 0, 1) := by decide +kernel
theorem dL_law_313 : decode cL_law 313 = .ok (.iload_n 3, 1) := by decide +kernel
theorem dL_law_314 : decode cL_law 314 = .ok (.iconst 1, 1) := by decide +kernel
theorem dL_law_315 : decode cL_law 315 = .ok (.iadd, 1) := by decide +kernel
theorem dL_law_316 : decode cL_law 316 = .ok (.iaload, 1) := by decide +kernel
theorem dL_law_317 : decode cL_law 317 = .ok (.invokevirtual 65, 3) := by decide +kernel
theorem dL_law_320 : decode cL_law 320 = .ok (.aload_n 2, 1) := by decide +kernel
theorem dL_law_321 : decode cL_law 321 = .ok (.aload_n 0, 1) := by decide +kernel
theorem dL_law_322 : decode cL_law 322 = .ok (.iload_n 3, 1) := by decide +kernel
theorem dL_law_323 : decode cL_law 323 = .ok (.iconst 1, 1) := by decide +kernel
theorem dL_law_324 : decode cL_law 324 = .ok (.iadd, 1) := by decide +kernel
theorem dL_law_325 : decode cL_law 325 = .ok (.iaload, 1) := by decide +kernel
theorem dL_law_326 : decode cL_law 326 = .ok (.invokevirtual 68, 3) := by decide +kernel
theorem dL_law_329 : decode cL_law 329 = .ok (.if_icmp .eq 29, 3) := by decide +kernel
theorem dL_law_332 : decode cL_law 332 = .ok (.iconst 0, 1) := by decide +kernel
theorem dL_law_333 : decode cL_law 333 = .ok (.ireturn, 1) := by decide +kernel
theorem dL_law_334 : decode cL_law 334 = .ok (.aload_n 1, 1) := by decide +kernel
theorem dL_law_335 : decode cL_law 335 = .ok (.aload_n 0, 1) := by decide +kernel
theorem dL_law_336 : decode cL_law 336 = .ok (.iload_n 3, 1) := by decide +kernel
theorem dL_law_337 : decode cL_law 337 = .ok (.iconst 1, 1) := by decide +kernel
theorem dL_law_338 : decode cL_law 338 = .ok (.iadd, 1) := by decide +kernel
theorem dL_law_339 : decode cL_law 339 = .ok (.iaload, 1) := by decide +kernel
theorem dL_law_340 : decode cL_law 340 = .ok (.invokevirtual 69, 3) := by decide +kernel
theorem dL_law_343 : decode cL_law 343 = .ok (.aload_n 2, 1) := by decide +kernel
theorem dL_law_344 : decode cL_law 344 = .ok (.aload_n 0, 1) := by decide +kernel
theorem dL_law_345 : decode cL_law 345 = .ok (.iload_n 3, 1) := by decide +kernel
theorem dL_law_346 : decode cL_law 346 = .ok (.iconst 1, 1) := by decide +kernel
theorem dL_law_347 : decode cL_law 347 = .ok (.iadd, 1) := by decide +kernel
theorem dL_law_348 : decode cL_law 348 = .ok (.iaload, 1) := by decide +kernel
theorem dL_law_349 : decode cL_law 349 = .ok (.invokevirtual 72, 3) := by decide +kernel
theorem dL_law_352 : decode cL_law 352 = .ok (.lcmp, 1) := by decide +kernel
theorem dL_law_353 : decode cL_law 353 = .ok (.ifCond .eq 5, 3) := by decide +kernel
theorem dL_law_356 : decode cL_law 356 = .ok (.iconst 0, 1) := by decide +kernel
theorem dL_law_357 : decode cL_law 357 = .ok (.ireturn, 1) := by decide +kernel
theorem dL_law_358 : decode cL_law 358 = .ok (.iinc 3 2, 3) := by decide +kernel
theorem dL_law_361 : decode cL_law 361 = .ok (.goto (-343), 3) := by decide +kernel
theorem dL_law_364 : decode cL_law 364 = .ok (.iconst 1, 1) := by decide +kernel
theorem dL_law_365 : decode cL_law 365 = .ok (.ireturn, 1) := by decide +kernel
