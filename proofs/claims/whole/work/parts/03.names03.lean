theorem dX11_next_334 : decode cX11_next 334 = .ok (.iadd, 1) := by decide +kernel
theorem dX11_next_335 : decode cX11_next 335 = .ok (.putfield 130, 3) := by decide +kernel
theorem dX11_next_338 : decode cX11_next 338 = .ok (.return_, 1) := by decide +kernel
theorem dX11_findKeyword_0 : decode cX11_findKeyword 0 = .ok (.iconst 0, 1) := by decide +kernel
theorem dX11_findKeyword_1 : decode cX11_findKeyword 1 = .ok (.istore_n 2, 1) := by decide +kernel
theorem dX11_findKeyword_2 : decode cX11_findKeyword 2 = .ok (.iconst 0, 1) := by decide +kernel
theorem dX11_findKeyword_3 : decode cX11_findKeyword 3 = .ok (.istore_n 3, 1) := by decide +kernel
theorem dX11_findKeyword_4 : decode cX11_findKeyword 4 = .ok (.iload_n 3, 1) := by decide +kernel
theorem dX11_findKeyword_5 : decode cX11_findKeyword 5 = .ok (.ldc 165, 2) := by decide +kernel
theorem dX11_findKeyword_7 : decode cX11_findKeyword 7 = .ok (.invokevirtual 167, 3) := by decide +kernel
theorem dX11_findKeyword_10 : decode cX11_findKeyword 10 = .ok (.if_icmp .ge 106, 3) := by decide +kernel
theorem dX11_findKeyword_13 : decode cX11_findKeyword 13 = .ok (.ldc 165, 2) := by decide +kernel
theorem dX11_findKeyword_15 : decode cX11_findKeyword 15 = .ok (.bipush 32, 2) := by decide +kernel
theorem dX11_findKeyword_17 : decode cX11_findKeyword 17 = .ok (.iload_n 3, 1) := by decide +kernel
theorem dX11_findKeyword_18 : decode cX11_findKeyword 18 = .ok (.invokevirtual 173, 3) := by decide +kernel
theorem dX11_findKeyword_21 : decode cX11_findKeyword 21 = .ok (.istore 4, 2) := by decide +kernel
theorem dX11_findKeyword_23 : decode cX11_findKeyword 23 = .ok (.iload 4, 2) := by decide +kernel
theorem dX11_findKeyword_25 : decode cX11_findKeyword 25 = .ok (.iload_n 3, 1) := by decide +kernel
theorem dX11_findKeyword_26 : decode cX11_findKeyword 26 = .ok (.isub, 1) := by decide +kernel
theorem dX11_findKeyword_27 : decode cX11_findKeyword 27 = .ok (.iload_n 1, 1) := by decide +kernel
theorem dX11_findKeyword_28 : decode cX11_findKeyword 28 = .ok (.if_icmp .ne 7, 3) := by decide +kernel
theorem dX11_findKeyword_31 : decode cX11_findKeyword 31 = .ok (.iconst 1, 1) := by decide +kernel
theorem dX11_findKeyword_32 : decode cX11_findKeyword 32 = .ok (.goto 4, 3) := by decide +kernel
theorem dX11_findKeyword_35 : decode cX11_findKeyword 35 = .ok (.iconst 0, 1) := by decide +kernel
theorem dX11_findKeyword_36 : decode cX11_findKeyword 36 = .ok (.istore 5, 2) := by decide +kernel
theorem dX11_findKeyword_38 : decode cX11_findKeyword 38 = .ok (.iconst 0, 1) := by decide +kernel
theorem dX11_findKeyword_39 : decode cX11_findKeyword 39 = .ok (.istore 6, 2) := by decide +kernel
theorem dX11_findKeyword_41 : decode cX11_findKeyword 41 = .ok (.iload 6, 2) := by decide +kernel
theorem dX11_findKeyword_43 : decode cX11_findKeyword 43 = .ok (.iload_n 1, 1) := by decide +kernel
theorem dX11_findKeyword_44 : decode cX11_findKeyword 44 = .ok (.if_icmp .ge 44, 3) := by decide +kernel
theorem dX11_findKeyword_47 : decode cX11_findKeyword 47 = .ok (.iload 5, 2) := by decide +kernel
theorem dX11_findKeyword_49 : decode cX11_findKeyword 49 = .ok (.ifCond .eq 39, 3) := by decide +kernel
theorem dX11_findKeyword_52 : decode cX11_findKeyword 52 = .ok (.ldc 165, 2) := by decide +kernel
theorem dX11_findKeyword_54 : decode cX11_findKeyword 54 = .ok (.iload_n 3, 1) := by decide +kernel
theorem dX11_findKeyword_55 : decode cX11_findKeyword 55 = .ok (.iload 6, 2) := by decide +kernel
theorem dX11_findKeyword_57 : decode cX11_findKeyword 57 = .ok (.iadd, 1) := by decide +kernel
theorem dX11_findKeyword_58 : decode cX11_findKeyword 58 = .ok (.invokevirtual 177, 3) := by decide +kernel
theorem dX11_findKeyword_61 : decode cX11_findKeyword 61 = .ok (.aload_n 0, 1) := by decide +kernel
theorem dX11_findKeyword_62 : decode cX11_findKeyword 62 = .ok (.aload_n 0, 1) := by decide +kernel
theorem dX11_findKeyword_63 : decode cX11_findKeyword 63 = .ok (.getfield 137, 3) := by decide +kernel
theorem dX11_findKeyword_66 : decode cX11_findKeyword 66 = .ok (.iload 6, 2) := by decide +kernel
theorem dX11_findKeyword_68 : decode cX11_findKeyword 68 = .ok (.iadd, 1) := by decide +kernel
theorem dX11_findKeyword_69 : decode cX11_findKeyword 69 = .ok (.invokevirtual 133, 3) := by decide +kernel
theorem dX11_findKeyword_72 : decode cX11_findKeyword 72 = .ok (.if_icmp .ne 7, 3) := by decide +kernel
theorem dX11_findKeyword_75 : decode cX11_findKeyword 75 = .ok (.iconst 1, 1) := by decide +kernel
theorem dX11_findKeyword_76 : decode cX11_findKeyword 76 = .ok (.goto 4, 3) := by decide +kernel
theorem dX11_findKeyword_79 : decode cX11_findKeyword 79 = .ok (.iconst 0, 1) := by decide +kernel
theorem dX11_findKeyword_80 : decode cX11_findKeyword 80 = .ok (.istore 5, 2) := by decide +kernel
theorem dX11_findKeyword_82 : decode cX11_findKeyword 82 = .ok (.iinc 6 1, 3) := by decide +kernel
theorem dX11_findKeyword_85 : decode cX11_findKeyword 85 = .ok (.goto (-44), 3) := by decide +kernel
theorem dX11_findKeyword_88 : decode cX11_findKeyword 88 = .ok (.aload_n 0, 1) := by decide +kernel
theorem dX11_findKeyword_89 : decode cX11_findKeyword 89 = .ok (.iload 5, 2) := by decide +kernel
theorem dX11_findKeyword_91 : decode cX11_findKeyword 91 = .ok (.ifCond .eq 7, 3) := by decide +kernel
theorem dX11_findKeyword_94 : decode cX11_findKeyword 94 = .ok (.iload_n 2, 1) := by decide +kernel
theorem dX11_findKeyword_95 : decode cX11_findKeyword 95 = .ok (.goto 7, 3) := by decide +kernel
theorem dX11_findKeyword_98 : decode cX11_findKeyword 98 = .ok (.aload_n 0, 1) := by decide +kernel
theorem dX11_findKeyword_99 : decode cX11_findKeyword 99 = .ok (.getfield 144, 3) := by decide +kernel
theorem dX11_findKeyword_102 : decode cX11_findKeyword 102 = .ok (.putfield 144, 3) := by decide +kernel
theorem dX11_findKeyword_105 : decode cX11_findKeyword 105 = .ok (.iinc 2 1, 3) := by decide +kernel
theorem dX11_findKeyword_108 : decode cX11_findKeyword 108 = .ok (.iload 4, 2) := by decide +kernel
theorem dX11_findKeyword_110 : decode cX11_findKeyword 110 = .ok (.iconst 1, 1) := by decide +kernel
theorem dX11_findKeyword_111 : decode cX11_findKeyword 111 = .ok (.iadd, 1) := by decide +kernel
theorem dX11_findKeyword_112 : decode cX11_findKeyword 112 = .ok (.istore_n 3, 1) := by decide +kernel
theorem dX11_findKeyword_113 : decode cX11_findKeyword 113 = .ok (.goto (-109), 3) := by decide +kernel
theorem dX11_findKeyword_116 : decode cX11_findKeyword 116 = .ok (.return_, 1) := by decide +kernel
theorem dX11_fault_0 : decode cX11_fault 0 = .ok (.aload_n 0, 1) := by decide +kernel
theorem dX11_fault_1 : decode cX11_fault 1 = .ok (.getfield 181, 3) := by decide +kernel
theorem dX11_fault_4 : decode cX11_fault 4 = .ok (.ifCond .ne 16, 3) := by decide +kernel
theorem dX11_fault_7 : decode cX11_fault 7 = .ok (.aload_n 0, 1) := by decide +kernel
theorem dX11_fault_8 : decode cX11_fault 8 = .ok (.iload_n 1, 1) := by decide +kernel
theorem dX11_fault_9 : decode cX11_fault 9 = .ok (.putfield 181, 3) := by decide +kernel
theorem dX11_fault_12 : decode cX11_fault 12 = .ok (.aload_n 0, 1) := by decide +kernel
theorem dX11_fault_13 : decode cX11_fault 13 = .ok (.aload_n 0, 1) := by decide +kernel
theorem dX11_fault_14 : decode cX11_fault 14 = .ok (.getfield 137, 3) := by decide +kernel
theorem dX11_fault_17 : decode cX11_fault 17 = .ok (.putfield 184, 3) := by decide +kernel
theorem dX11_fault_20 : decode cX11_fault 20 = .ok (.return_, 1) := by decide +kernel
theorem dX11_misplaced_0 : decode cX11_misplaced 0 = .ok (.aload_n 0, 1) := by decide +kernel
theorem dX11_misplaced_1 : decode cX11_misplaced 1 = .ok (.aload_n 0, 1) := by decide +kernel
theorem dX11_misplaced_2 : decode cX11_misplaced 2 = .ok (.getfield 147, 3) := by decide +kernel
theorem dX11_misplaced_5 : decode cX11_misplaced 5 = .ok (.iconst 4, 1) := by decide +kernel
theorem dX11_misplaced_6 : decode cX11_misplaced 6 = .ok (.if_icmp .ne 7, 3) := by decide +kernel
theorem dX11_misplaced_9 : decode cX11_misplaced 9 = .ok (.iconst 1, 1) := by decide +kernel
theorem dX11_misplaced_10 : decode cX11_misplaced 10 = .ok (.goto 4, 3) := by decide +kernel
theorem dX11_misplaced_13 : decode cX11_misplaced 13 = .ok (.iconst 2, 1) := by decide +kernel
theorem dX11_misplaced_14 : decode cX11_misplaced 14 = .ok (.invokevirtual 187, 3) := by decide +kernel
theorem dX11_misplaced_17 : decode cX11_misplaced 17 = .ok (.return_, 1) := by decide +kernel
theorem dX11_good_0 : decode cX11_good 0 = .ok (.aload_n 0, 1) := by decide +kernel
theorem dX11_good_1 : decode cX11_good 1 = .ok (.getfield 181, 3) := by decide +kernel
theorem dX11_good_4 : decode cX11_good 4 = .ok (.ifCond .ne 7, 3) := by decide +kernel
theorem dX11_good_7 : decode cX11_good 7 = .ok (.iconst 1, 1) := by decide +kernel
theorem dX11_good_8 : decode cX11_good 8 = .ok (.goto 4, 3) := by decide +kernel
theorem dX11_good_11 : decode cX11_good 11 = .ok (.iconst 0, 1) := by decide +kernel
theorem dX11_good_12 : decode cX11_good 12 = .ok (.ireturn, 1) := by decide +kernel
theorem dX11_isName_0 : decode cX11_isName 0 = .ok (.aload_n 0, 1) := by decide +kernel
theorem dX11_isName_1 : decode cX11_isName 1 = .ok (.getfield 147, 3) := by decide +kernel
theorem dX11_isName_4 : decode cX11_isName 4 = .ok (.iconst 1, 1) := by decide +kernel
theorem dX11_isName_5 : decode cX11_isName 5 = .ok (.if_icmp .ne 14, 3) := by decide +kernel
theorem dX11_isName_8 : decode cX11_isName 8 = .ok (.aload_n 0, 1) := by decide +kernel
theorem dX11_isName_9 : decode cX11_isName 9 = .ok (.getfield 144, 3) := by decide +kernel
theorem dX11_isName_12 : decode cX11_isName 12 = .ok (.ifCond .ge 7, 3) := by decide +kernel
theorem dX11_isName_15 : decode cX11_isName 15 = .ok (.iconst 1, 1) := by decide +kernel
theorem dX11_isName_16 : decode cX11_isName 16 = .ok (.goto 4, 3) := by decide +kernel
theorem dX11_isName_19 : decode cX11_isName 19 = .ok (.iconst 0, 1) := by decide +kernel
theorem dX11_isName_20 : decode cX11_isName 20 = .ok (.ireturn, 1) := by decide +kernel
theorem dX11_isKeyword_0 : decode cX11_isKeyword 0 = .ok (.aload_n 0, 1) := by decide +kernel
theorem dX11_isKeyword_1 : decode cX11_isKeyword 1 = .ok (.getfield 147, 3) := by decide +kernel
theorem dX11_isKeyword_4 : decode cX11_isKeyword 4 = .ok (.iconst 1, 1) := by decide +kernel
theorem dX11_isKeyword_5 : decode cX11_isKeyword 5 = .ok (.if_icmp .ne 15, 3) := by decide +kernel
theorem dX11_isKeyword_8 : decode cX11_isKeyword 8 = .ok (.aload_n 0, 1) := by decide +kernel
theorem dX11_isKeyword_9 : decode cX11_isKeyword 9 = .ok (.getfield 144, 3) := by decide +kernel
theorem dX11_isKeyword_12 : decode cX11_isKeyword 12 = .ok (.iload_n 1, 1) := by decide +kernel
theorem dX11_isKeyword_13 : decode cX11_isKeyword 13 = .ok (.if_icmp .ne 7, 3) := by decide +kernel
theorem dX11_isKeyword_16 : decode cX11_isKeyword 16 = .ok (.iconst 1, 1) := by decide +kernel
theorem dX11_isKeyword_17 : decode cX11_isKeyword 17 = .ok (.goto 4, 3) := by decide +kernel
theorem dX11_isKeyword_20 : decode cX11_isKeyword 20 = .ok (.iconst 0, 1) := by decide +kernel
theorem dX11_isKeyword_21 : decode cX11_isKeyword 21 = .ok (.ireturn, 1) := by decide +kernel
theorem dX11_takeKeyword_0 : decode cX11_takeKeyword 0 = .ok (.aload_n 0, 1) := by decide +kernel
theorem dX11_takeKeyword_1 : decode cX11_takeKeyword 1 = .ok (.invokevirtual 190, 3) := by decide +kernel
theorem dX11_takeKeyword_4 : decode cX11_takeKeyword 4 = .ok (.ifCond .eq 15, 3) := by decide +kernel
theorem dX11_takeKeyword_7 : decode cX11_takeKeyword 7 = .ok (.aload_n 0, 1) := by decide +kernel
theorem dX11_takeKeyword_8 : decode cX11_takeKeyword 8 = .ok (.iload_n 1, 1) := by decide +kernel
theorem dX11_takeKeyword_9 : decode cX11_takeKeyword 9 = .ok (.invokevirtual 194, 3) := by decide +kernel
theorem dX11_takeKeyword_12 : decode cX11_takeKeyword 12 = .ok (.ifCond .ne 7, 3) := by decide +kernel
theorem dX11_takeKeyword_15 : decode cX11_takeKeyword 15 = .ok (.aload_n 0, 1) := by decide +kernel
theorem dX11_takeKeyword_16 : decode cX11_takeKeyword 16 = .ok (.invokevirtual 197, 3) := by decide +kernel
theorem dX11_takeKeyword_19 : decode cX11_takeKeyword 19 = .ok (.aload_n 0, 1) := by decide +kernel
theorem dX11_takeKeyword_20 : decode cX11_takeKeyword 20 = .ok (.invokevirtual 190, 3) := by decide +kernel
theorem dX11_takeKeyword_23 : decode cX11_takeKeyword 23 = .ok (.ifCond .eq 7, 3) := by decide +kernel
theorem dX11_takeKeyword_26 : decode cX11_takeKeyword 26 = .ok (.aload_n 0, 1) := by decide +kernel
theorem dX11_takeKeyword_27 : decode cX11_takeKeyword 27 = .ok (.invokevirtual 200, 3) := by decide +kernel
theorem dX11_takeKeyword_30 : decode cX11_takeKeyword 30 = .ok (.return_, 1) := by decide +kernel
theorem dX11_takeSign_0 : decode cX11_takeSign 0 = .ok (.aload_n 0, 1) := by decide +kernel
theorem dX11_takeSign_1 : decode cX11_takeSign 1 = .ok (.invokevirtual 190, 3) := by decide +kernel
theorem dX11_takeSign_4 : decode cX11_takeSign 4 = .ok (.ifCond .eq 25, 3) := by decide +kernel
theorem dX11_takeSign_7 : decode cX11_takeSign 7 = .ok (.aload_n 0, 1) := by decide +kernel
theorem dX11_takeSign_8 : decode cX11_takeSign 8 = .ok (.getfield 147, 3) := by decide +kernel
theorem dX11_takeSign_11 : decode cX11_takeSign 11 = .ok (.iconst 3, 1) := by decide +kernel
theorem dX11_takeSign_12 : decode cX11_takeSign 12 = .ok (.if_icmp .ne 13, 3) := by decide +kernel
theorem dX11_takeSign_15 : decode cX11_takeSign 15 = .ok (.aload_n 0, 1) := by decide +kernel
theorem dX11_takeSign_16 : decode cX11_takeSign 16 = .ok (.getfield 140, 3) := by decide +kernel
theorem dX11_takeSign_19 : decode cX11_takeSign 19 = .ok (.iload_n 1, 1) := by decide +kernel
theorem dX11_takeSign_20 : decode cX11_takeSign 20 = .ok (.i2l, 1) := by decide +kernel
theorem dX11_takeSign_21 : decode cX11_takeSign 21 = .ok (.lcmp, 1) := by decide +kernel
theorem dX11_takeSign_22 : decode cX11_takeSign 22 = .ok (.ifCond .eq 7, 3) := by decide +kernel
theorem dX11_takeSign_25 : decode cX11_takeSign 25 = .ok (.aload_n 0, 1) := by decide +kernel
theorem dX11_takeSign_26 : decode cX11_takeSign 26 = .ok (.invokevirtual 197, 3) := by decide +kernel
theorem dX11_takeSign_29 : decode cX11_takeSign 29 = .ok (.aload_n 0, 1) := by decide +kernel
theorem dX11_takeSign_30 : decode cX11_takeSign 30 = .ok (.invokevirtual 190, 3) := by decide +kernel
theorem dX11_takeSign_33 : decode cX11_takeSign 33 = .ok (.ifCond .eq 7, 3) := by decide +kernel
theorem dX11_takeSign_36 : decode cX11_takeSign 36 = .ok (.aload_n 0, 1) := by decide +kernel
theorem dX11_takeSign_37 : decode cX11_takeSign 37 = .ok (.invokevirtual 200, 3) := by decide +kernel
theorem dX11_takeSign_40 : decode cX11_takeSign 40 = .ok (.return_, 1) := by decide +kernel
theorem dX11_takeNumber_0 : decode cX11_takeNumber 0 = .ok (.aload_n 0, 1) := by decide +kernel
theorem dX11_takeNumber_1 : decode cX11_takeNumber 1 = .ok (.invokevirtual 190, 3) := by decide +kernel
theorem dX11_takeNumber_4 : decode cX11_takeNumber 4 = .ok (.ifCond .eq 15, 3) := by decide +kernel
theorem dX11_takeNumber_7 : decode cX11_takeNumber 7 = .ok (.aload_n 0, 1) := by decide +kernel
theorem dX11_takeNumber_8 : decode cX11_takeNumber 8 = .ok (.getfield 147, 3) := by decide +kernel
theorem dX11_takeNumber_11 : decode cX11_takeNumber 11 = .ok (.iconst 2, 1) := by decide +kernel
theorem dX11_takeNumber_12 : decode cX11_takeNumber 12 = .ok (.if_icmp .eq 7, 3) := by decide +kernel
theorem dX11_takeNumber_15 : decode cX11_takeNumber 15 = .ok (.aload_n 0, 1) := by decide +kernel
theorem dX11_takeNumber_16 : decode cX11_takeNumber 16 = .ok (.invokevirtual 197, 3) := by decide +kernel
theorem dX11_takeNumber_19 : decode cX11_takeNumber 19 = .ok (.aload_n 0, 1) := by decide +kernel
theorem dX11_takeNumber_20 : decode cX11_takeNumber 20 = .ok (.invokevirtual 190, 3) := by decide +kernel
theorem dX11_takeNumber_23 : decode cX11_takeNumber 23 = .ok (.ifCond .ne 5, 3) := by decide +kernel
theorem dX11_takeNumber_26 : decode cX11_takeNumber 26 = .ok (.lconst 0, 1) := by decide +kernel
theorem dX11_takeNumber_27 : decode cX11_takeNumber 27 = .ok (.lreturn, 1) := by decide +kernel
theorem dX11_takeNumber_28 : decode cX11_takeNumber 28 = .ok (.aload_n 0, 1) := by decide +kernel
theorem dX11_takeNumber_29 : decode cX11_takeNumber 29 = .ok (.getfield 140, 3) := by decide +kernel
theorem dX11_takeNumber_32 : decode cX11_takeNumber 32 = .ok (.lstore 5, 2) := by decide +kernel
theorem dX11_takeNumber_34 : decode cX11_takeNumber 34 = .ok (.lload 5, 2) := by decide +kernel
theorem dX11_takeNumber_36 : decode cX11_takeNumber 36 = .ok (.lload_n 1, 1) := by decide +kernel
theorem dX11_takeNumber_37 : decode cX11_takeNumber 37 = .ok (.lcmp, 1) := by decide +kernel
theorem dX11_takeNumber_38 : decode cX11_takeNumber 38 = .ok (.ifCond .lt 10, 3) := by decide +kernel
theorem dX11_takeNumber_41 : decode cX11_takeNumber 41 = .ok (.lload 5, 2) := by decide +kernel
theorem dX11_takeNumber_43 : decode cX11_takeNumber 43 = .ok (.lload_n 3, 1) := by decide +kernel
theorem dX11_takeNumber_44 : decode cX11_takeNumber 44 = .ok (.lcmp, 1) := by decide +kernel
theorem dX11_takeNumber_45 : decode cX11_takeNumber 45 = .ok (.ifCond .le 10, 3) := by decide +kernel
theorem dX11_takeNumber_48 : decode cX11_takeNumber 48 = .ok (.aload_n 0, 1) := by decide +kernel
theorem dX11_takeNumber_49 : decode cX11_takeNumber 49 = .ok (.iconst 5, 1) := by decide +kernel
theorem dX11_takeNumber_50 : decode cX11_takeNumber 50 = .ok (.invokevirtual 187, 3) := by decide +kernel
theorem dX11_takeNumber_53 : decode cX11_takeNumber 53 = .ok (.lconst 0, 1) := by decide +kernel
theorem dX11_takeNumber_54 : decode cX11_takeNumber 54 = .ok (.lreturn, 1) := by decide +kernel
theorem dX11_takeNumber_55 : decode cX11_takeNumber 55 = .ok (.aload_n 0, 1) := by decide +kernel
theorem dX11_takeNumber_56 : decode cX11_takeNumber 56 = .ok (.invokevirtual 200, 3) := by decide +kernel
theorem dX11_takeNumber_59 : decode cX11_takeNumber 59 = .ok (.lload 5, 2) := by decide +kernel
theorem dX11_takeNumber_61 : decode cX11_takeNumber 61 = .ok (.lreturn, 1) := by decide +kernel
theorem dX11_findName_0 : decode cX11_findName 0 = .ok (.iconst 0, 1) := by decide +kernel
theorem dX11_findName_1 : decode cX11_findName 1 = .ok (.istore_n 3, 1) := by decide +kernel
theorem dX11_findName_2 : decode cX11_findName 2 = .ok (.iload_n 3, 1) := by decide +kernel
theorem dX11_findName_3 : decode cX11_findName 3 = .ok (.aload_n 0, 1) := by decide +kernel
theorem dX11_findName_4 : decode cX11_findName 4 = .ok (.getfield 60, 3) := by decide +kernel
theorem dX11_findName_7 : decode cX11_findName 7 = .ok (.iconst 0, 1) := by decide +kernel
theorem dX11_findName_8 : decode cX11_findName 8 = .ok (.iaload, 1) := by decide +kernel
theorem dX11_findName_9 : decode cX11_findName 9 = .ok (.if_icmp .ge 20, 3) := by decide +kernel
theorem dX11_findName_12 : decode cX11_findName 12 = .ok (.aload_n 0, 1) := by decide +kernel
theorem dX11_findName_13 : decode cX11_findName 13 = .ok (.getfield 19, 3) := by decide +kernel
theorem dX11_findName_16 : decode cX11_findName 16 = .ok (.iload_n 3, 1) := by decide +kernel
theorem dX11_findName_17 : decode cX11_findName 17 = .ok (.laload, 1) := by decide +kernel
theorem dX11_findName_18 : decode cX11_findName 18 = .ok (.lload_n 1, 1) := by decide +kernel
theorem dX11_findName_19 : decode cX11_findName 19 = .ok (.lcmp, 1) := by decide +kernel
theorem dX11_findName_20 : decode cX11_findName 20 = .ok (.ifCond .eq 9, 3) := by decide +kernel
theorem dX11_findName_23 : decode cX11_findName 23 = .ok (.iinc 3 1, 3) := by decide +kernel
theorem dX11_findName_26 : decode cX11_findName 26 = .ok (.goto (-24), 3) := by decide +kernel
theorem dX11_findName_29 : decode cX11_findName 29 = .ok (.iload_n 3, 1) := by decide +kernel
theorem dX11_findName_30 : decode cX11_findName 30 = .ok (.aload_n 0, 1) := by decide +kernel
theorem dX11_findName_31 : decode cX11_findName 31 = .ok (.getfield 60, 3) := by decide +kernel
theorem dX11_findName_34 : decode cX11_findName 34 = .ok (.iconst 0, 1) := by decide +kernel
theorem dX11_findName_35 : decode cX11_findName 35 = .ok (.iaload, 1) := by decide +kernel
theorem dX11_findName_36 : decode cX11_findName 36 = .ok (.if_icmp .ge 7, 3) := by decide +kernel
theorem dX11_findName_39 : decode cX11_findName 39 = .ok (.iload_n 3, 1) := by decide +kernel
theorem dX11_findName_40 : decode cX11_findName 40 = .ok (.goto 4, 3) := by decide +kernel
theorem dX11_findName_43 : decode cX11_findName 43 = .ok (.iconst (-1), 1) := by decide +kernel
theorem dX11_findName_44 : decode cX11_findName 44 = .ok (.ireturn, 1) := by decide +kernel
theorem dX11_statement_0 : decode cX11_statement 0 = .ok (.aload_n 0, 1) := by decide +kernel
theorem dX11_statement_1 : decode cX11_statement 1 = .ok (.bipush 14, 2) := by decide +kernel
theorem dX11_statement_3 : decode cX11_statement 3 = .ok (.invokevirtual 194, 3) := by decide +kernel
theorem dX11_statement_6 : decode cX11_statement 6 = .ok (.ifCond .eq 8, 3) := by decide +kernel
theorem dX11_statement_9 : decode cX11_statement 9 = .ok (.aload_n 0, 1) := by decide +kernel
theorem dX11_statement_10 : decode cX11_statement 10 = .ok (.invokevirtual 203, 3) := by decide +kernel
theorem dX11_statement_13 : decode cX11_statement 13 = .ok (.return_, 1) := by decide +kernel
theorem dX11_statement_14 : decode cX11_statement 14 = .ok (.aload_n 0, 1) := by decide +kernel
theorem dX11_statement_15 : decode cX11_statement 15 = .ok (.invokevirtual 206, 3) := by decide +kernel
theorem dX11_statement_18 : decode cX11_statement 18 = .ok (.ifCond .ne 8, 3) := by decide +kernel
theorem dX11_statement_21 : decode cX11_statement 21 = .ok (.aload_n 0, 1) := by decide +kernel
theorem dX11_statement_22 : decode cX11_statement 22 = .ok (.invokevirtual 197, 3) := by decide +kernel
theorem dX11_statement_25 : decode cX11_statement 25 = .ok (.return_, 1) := by decide +kernel
theorem dX11_statement_26 : decode cX11_statement 26 = .ok (.aload_n 0, 1) := by decide +kernel
theorem dX11_statement_27 : decode cX11_statement 27 = .ok (.getfield 140, 3) := by decide +kernel
theorem dX11_statement_30 : decode cX11_statement 30 = .ok (.lstore_n 1, 1) := by decide +kernel
theorem dX11_statement_31 : decode cX11_statement 31 = .ok (.aload_n 0, 1) := by decide +kernel
theorem dX11_statement_32 : decode cX11_statement 32 = .ok (.getfield 130, 3) := by decide +kernel
theorem dX11_statement_35 : decode cX11_statement 35 = .ok (.aload_n 0, 1) := by decide +kernel
theorem dX11_statement_36 : decode cX11_statement 36 = .ok (.getfield 137, 3) := by decide +kernel
theorem dX11_statement_39 : decode cX11_statement 39 = .ok (.isub, 1) := by decide +kernel
theorem dX11_statement_40 : decode cX11_statement 40 = .ok (.istore_n 3, 1) := by decide +kernel
theorem dX11_statement_41 : decode cX11_statement 41 = .ok (.aload_n 0, 1) := by decide +kernel
theorem dX11_statement_42 : decode cX11_statement 42 = .ok (.lload_n 1, 1) := by decide +kernel
theorem dX11_statement_43 : decode cX11_statement 43 = .ok (.invokevirtual 209, 3) := by decide +kernel
theorem dX11_statement_46 : decode cX11_statement 46 = .ok (.ifCond .lt 11, 3) := by decide +kernel
theorem dX11_statement_49 : decode cX11_statement 49 = .ok (.aload_n 0, 1) := by decide +kernel
theorem dX11_statement_50 : decode cX11_statement 50 = .ok (.iconst 3, 1) := by decide +kernel
theorem dX11_statement_51 : decode cX11_statement 51 = .ok (.invokevirtual 187, 3) := by decide +kernel
theorem dX11_statement_54 : decode cX11_statement 54 = .ok (.goto 20, 3) := by decide +kernel
theorem dX11_statement_57 : decode cX11_statement 57 = .ok (.aload_n 0, 1) := by decide +kernel
theorem dX11_statement_58 : decode cX11_statement 58 = .ok (.getfield 60, 3) := by decide +kernel
theorem dX11_statement_61 : decode cX11_statement 61 = .ok (.iconst 0, 1) := by decide +kernel
theorem dX11_statement_62 : decode cX11_statement 62 = .ok (.iaload, 1) := by decide +kernel
theorem dX11_statement_63 : decode cX11_statement 63 = .ok (.bipush 12, 2) := by decide +kernel
theorem dX11_statement_65 : decode cX11_statement 65 = .ok (.if_icmp .ne 9, 3) := by decide +kernel
theorem dX11_statement_68 : decode cX11_statement 68 = .ok (.aload_n 0, 1) := by decide +kernel
theorem dX11_statement_69 : decode cX11_statement 69 = .ok (.bipush 6, 2) := by decide +kernel
theorem dX11_statement_71 : decode cX11_statement 71 = .ok (.invokevirtual 187, 3) := by decide +kernel
theorem dX11_statement_74 : decode cX11_statement 74 = .ok (.aload_n 0, 1) := by decide +kernel
theorem dX11_statement_75 : decode cX11_statement 75 = .ok (.invokevirtual 190, 3) := by decide +kernel
theorem dX11_statement_78 : decode cX11_statement 78 = .ok (.ifCond .ne 4, 3) := by decide +kernel
theorem dX11_statement_81 : decode cX11_statement 81 = .ok (.return_, 1) := by decide +kernel
theorem dX11_statement_82 : decode cX11_statement 82 = .ok (.aload_n 0, 1) := by decide +kernel
theorem dX11_statement_83 : decode cX11_statement 83 = .ok (.getfield 60, 3) := by decide +kernel
theorem dX11_statement_86 : decode cX11_statement 86 = .ok (.iconst 0, 1) := by decide +kernel
theorem dX11_statement_87 : decode cX11_statement 87 = .ok (.iaload, 1) := by decide +kernel
theorem dX11_statement_88 : decode cX11_statement 88 = .ok (.istore 4, 2) := by decide +kernel
theorem dX11_statement_90 : decode cX11_statement 90 = .ok (.aload_n 0, 1) := by decide +kernel
theorem dX11_statement_91 : decode cX11_statement 91 = .ok (.getfield 19, 3) := by decide +kernel
theorem dX11_statement_94 : decode cX11_statement 94 = .ok (.iload 4, 2) := by decide +kernel
theorem dX11_statement_96 : decode cX11_statement 96 = .ok (.lload_n 1, 1) := by decide +kernel
theorem dX11_statement_97 : decode cX11_statement 97 = .ok (.lastore, 1) := by decide +kernel
theorem dX11_statement_98 : decode cX11_statement 98 = .ok (.aload_n 0, 1) := by decide +kernel
theorem dX11_statement_99 : decode cX11_statement 99 = .ok (.getfield 23, 3) := by decide +kernel
theorem dX11_statement_102 : decode cX11_statement 102 = .ok (.iload 4, 2) := by decide +kernel
theorem dX11_statement_104 : decode cX11_statement 104 = .ok (.iload_n 3, 1) := by decide +kernel
theorem dX11_statement_105 : decode cX11_statement 105 = .ok (.iastore, 1) := by decide +kernel
theorem dX11_statement_106 : decode cX11_statement 106 = .ok (.aload_n 0, 1) := by decide +kernel
theorem dX11_statement_107 : decode cX11_statement 107 = .ok (.getfield 45, 3) := by decide +kernel
theorem dX11_statement_110 : decode cX11_statement 110 = .ok (.iload 4, 2) := by decide +kernel
theorem dX11_statement_112 : decode cX11_statement 112 = .ok (.iconst 0, 1) := by decide +kernel
theorem dX11_statement_113 : decode cX11_statement 113 = .ok (.iastore, 1) := by decide +kernel
theorem dX11_statement_114 : decode cX11_statement 114 = .ok (.aload_n 0, 1) := by decide +kernel
theorem dX11_statement_115 : decode cX11_statement 115 = .ok (.getfield 51, 3) := by decide +kernel
theorem dX11_statement_118 : decode cX11_statement 118 = .ok (.iload 4, 2) := by decide +kernel
theorem dX11_statement_120 : decode cX11_statement 120 = .ok (.iconst (-1), 1) := by decide +kernel
theorem dX11_statement_121 : decode cX11_statement 121 = .ok (.iastore, 1) := by decide +kernel
theorem dX11_statement_122 : decode cX11_statement 122 = .ok (.aload_n 0, 1) := by decide +kernel
theorem dX11_statement_123 : decode cX11_statement 123 = .ok (.getfield 26, 3) := by decide +kernel
theorem dX11_statement_126 : decode cX11_statement 126 = .ok (.iload 4, 2) := by decide +kernel
theorem dX11_statement_128 : decode cX11_statement 128 = .ok (.iconst 0, 1) := by decide +kernel
theorem dX11_statement_129 : decode cX11_statement 129 = .ok (.iastore, 1) := by decide +kernel
theorem dX11_statement_130 : decode cX11_statement 130 = .ok (.aload_n 0, 1) := by decide +kernel
theorem dX11_statement_131 : decode cX11_statement 131 = .ok (.getfield 39, 3) := by decide +kernel
theorem dX11_statement_134 : decode cX11_statement 134 = .ok (.iload 4, 2) := by decide +kernel
theorem dX11_statement_136 : decode cX11_statement 136 = .ok (.iconst 0, 1) := by decide +kernel
theorem dX11_statement_137 : decode cX11_statement 137 = .ok (.iastore, 1) := by decide +kernel
theorem dX11_statement_138 : decode cX11_statement 138 = .ok (.aload_n 0, 1) := by decide +kernel
theorem dX11_statement_139 : decode cX11_statement 139 = .ok (.getfield 42, 3) := by decide +kernel
theorem dX11_statement_142 : decode cX11_statement 142 = .ok (.iload 4, 2) := by decide +kernel
theorem dX11_statement_144 : decode cX11_statement 144 = .ok (.iconst (-1), 1) := by decide +kernel
theorem dX11_statement_145 : decode cX11_statement 145 = .ok (.iastore, 1) := by decide +kernel
theorem dX11_statement_146 : decode cX11_statement 146 = .ok (.aload_n 0, 1) := by decide +kernel
theorem dX11_statement_147 : decode cX11_statement 147 = .ok (.getfield 29, 3) := by decide +kernel
theorem dX11_statement_150 : decode cX11_statement 150 = .ok (.iload 4, 2) := by decide +kernel
theorem dX11_statement_152 : decode cX11_statement 152 = .ok (.iconst 0, 1) := by decide +kernel
theorem dX11_statement_153 : decode cX11_statement 153 = .ok (.bastore, 1) := by decide +kernel
theorem dX11_statement_154 : decode cX11_statement 154 = .ok (.aload_n 0, 1) := by decide +kernel
theorem dX11_statement_155 : decode cX11_statement 155 = .ok (.getfield 33, 3) := by decide +kernel
theorem dX11_statement_158 : decode cX11_statement 158 = .ok (.iload 4, 2) := by decide +kernel
theorem dX11_statement_160 : decode cX11_statement 160 = .ok (.lconst 0, 1) := by decide +kernel
theorem dX11_statement_161 : decode cX11_statement 161 = .ok (.lastore, 1) := by decide +kernel
theorem dX11_statement_162 : decode cX11_statement 162 = .ok (.aload_n 0, 1) := by decide +kernel
theorem dX11_statement_163 : decode cX11_statement 163 = .ok (.getfield 36, 3) := by decide +kernel
theorem dX11_statement_166 : decode cX11_statement 166 = .ok (.iload 4, 2) := by decide +kernel
theorem dX11_statement_168 : decode cX11_statement 168 = .ok (.lconst 0, 1) := by decide +kernel
theorem dX11_statement_169 : decode cX11_statement 169 = .ok (.lastore, 1) := by decide +kernel
theorem dX11_statement_170 : decode cX11_statement 170 = .ok (.aload_n 0, 1) := by decide +kernel
theorem dX11_statement_171 : decode cX11_statement 171 = .ok (.invokevirtual 200, 3) := by decide +kernel
theorem dX11_statement_174 : decode cX11_statement 174 = .ok (.aload_n 0, 1) := by decide +kernel
theorem dX11_statement_175 : decode cX11_statement 175 = .ok (.bipush 61, 2) := by decide +kernel
theorem dX11_statement_177 : decode cX11_statement 177 = .ok (.invokevirtual 213, 3) := by decide +kernel
theorem dX11_statement_180 : decode cX11_statement 180 = .ok (.aload_n 0, 1) := by decide +kernel
theorem dX11_statement_181 : decode cX11_statement 181 = .ok (.invokevirtual 190, 3) := by decide +kernel
theorem dX11_statement_184 : decode cX11_statement 184 = .ok (.ifCond .eq 9, 3) := by decide +kernel
theorem dX11_statement_187 : decode cX11_statement 187 = .ok (.aload_n 0, 1) := by decide +kernel
theorem dX11_statement_188 : decode cX11_statement 188 = .ok (.iload 4, 2) := by decide +kernel
theorem dX11_statement_190 : decode cX11_statement 190 = .ok (.invokevirtual 216, 3) := by decide +kernel
theorem dX11_statement_193 : decode cX11_statement 193 = .ok (.aload_n 0, 1) := by decide +kernel
theorem dX11_statement_194 : decode cX11_statement 194 = .ok (.bipush 59, 2) := by decide +kernel
theorem dX11_statement_196 : decode cX11_statement 196 = .ok (.invokevirtual 213, 3) := by decide +kernel
theorem dX11_statement_199 : decode cX11_statement 199 = .ok (.aload_n 0, 1) := by decide +kernel
theorem dX11_statement_200 : decode cX11_statement 200 = .ok (.getfield 60, 3) := by decide +kernel
theorem dX11_statement_203 : decode cX11_statement 203 = .ok (.iconst 0, 1) := by decide +kernel
theorem dX11_statement_204 : decode cX11_statement 204 = .ok (.dup2, 1) := by decide +kernel
theorem dX11_statement_205 : decode cX11_statement 205 = .ok (.iaload, 1) := by decide +kernel
theorem dX11_statement_206 : decode cX11_statement 206 = .ok (.aload_n 0, 1) := by decide +kernel
theorem dX11_statement_207 : decode cX11_statement 207 = .ok (.invokevirtual 190, 3) := by decide +kernel
theorem dX11_statement_210 : decode cX11_statement 210 = .ok (.ifCond .eq 7, 3) := by decide +kernel
theorem dX11_statement_213 : decode cX11_statement 213 = .ok (.iconst 1, 1) := by decide +kernel
theorem dX11_statement_214 : decode cX11_statement 214 = .ok (.goto 4, 3) := by decide +kernel
theorem dX11_statement_217 : decode cX11_statement 217 = .ok (.iconst 0, 1) := by decide +kernel
theorem dX11_statement_218 : decode cX11_statement 218 = .ok (.iadd, 1) := by decide +kernel
theorem dX11_statement_219 : decode cX11_statement 219 = .ok (.iastore, 1) := by decide +kernel
theorem dX11_statement_220 : decode cX11_statement 220 = .ok (.return_, 1) := by decide +kernel
theorem dX11_body_0 : decode cX11_body 0 = .ok (.aload_n 0, 1) := by decide +kernel
theorem dX11_body_1 : decode cX11_body 1 = .ok (.getfield 147, 3) := by decide +kernel
theorem dX11_body_4 : decode cX11_body 4 = .ok (.iconst 1, 1) := by decide +kernel
theorem dX11_body_5 : decode cX11_body 5 = .ok (.if_icmp .ne 10, 3) := by decide +kernel
theorem dX11_body_8 : decode cX11_body 8 = .ok (.aload_n 0, 1) := by decide +kernel
theorem dX11_body_9 : decode cX11_body 9 = .ok (.getfield 144, 3) := by decide +kernel
theorem dX11_body_12 : decode cX11_body 12 = .ok (.goto 4, 3) := by decide +kernel
theorem dX11_body_15 : decode cX11_body 15 = .ok (.iconst (-1), 1) := by decide +kernel
theorem dX11_body_16 : decode cX11_body 16 = .ok (.tableswitch 204 0 11 #[64, 204, 204, 204, 204, 83, 136, 169, 188, 204, 204, 196], 64) := by decide +kernel
theorem dX11_body_80 : decode cX11_body 80 = .ok (.aload_n 0, 1) := by decide +kernel
theorem dX11_body_81 : decode cX11_body 81 = .ok (.invokevirtual 200, 3) := by decide +kernel
theorem dX11_body_84 : decode cX11_body 84 = .ok (.aload_n 0, 1) := by decide +kernel
theorem dX11_body_85 : decode cX11_body 85 = .ok (.getfield 15, 3) := by decide +kernel
theorem dX11_body_88 : decode cX11_body 88 = .ok (.iload_n 1, 1) := by decide +kernel
theorem dX11_body_89 : decode cX11_body 89 = .ok (.iconst 0, 1) := by decide +kernel
theorem dX11_body_90 : decode cX11_body 90 = .ok (.iastore, 1) := by decide +kernel
theorem dX11_body_91 : decode cX11_body 91 = .ok (.aload_n 0, 1) := by decide +kernel
theorem dX11_body_92 : decode cX11_body 92 = .ok (.iload_n 1, 1) := by decide +kernel
theorem dX11_body_93 : decode cX11_body 93 = .ok (.invokevirtual 219, 3) := by decide +kernel
theorem dX11_body_96 : decode cX11_body 96 = .ok (.goto 128, 3) := by decide +kernel
theorem dX11_body_99 : decode cX11_body 99 = .ok (.aload_n 0, 1) := by decide +kernel
theorem dX11_body_100 : decode cX11_body 100 = .ok (.invokevirtual 200, 3) := by decide +kernel
theorem dX11_body_103 : decode cX11_body 103 = .ok (.aload_n 0, 1) := by decide +kernel
theorem dX11_body_104 : decode cX11_body 104 = .ok (.getfield 15, 3) := by decide +kernel
theorem dX11_body_107 : decode cX11_body 107 = .ok (.iload_n 1, 1) := by decide +kernel
theorem dX11_body_108 : decode cX11_body 108 = .ok (.iconst 1, 1) := by decide +kernel
theorem dX11_body_109 : decode cX11_body 109 = .ok (.iastore, 1) := by decide +kernel
theorem dX11_body_110 : decode cX11_body 110 = .ok (.aload_n 0, 1) := by decide +kernel
theorem dX11_body_111 : decode cX11_body 111 = .ok (.iload_n 1, 1) := by decide +kernel
theorem dX11_body_112 : decode cX11_body 112 = .ok (.invokevirtual 222, 3) := by decide +kernel
theorem dX11_body_115 : decode cX11_body 115 = .ok (.aload_n 0, 1) := by decide +kernel
theorem dX11_body_116 : decode cX11_body 116 = .ok (.iload_n 1, 1) := by decide +kernel
theorem dX11_body_117 : decode cX11_body 117 = .ok (.invokevirtual 222, 3) := by decide +kernel
theorem dX11_body_120 : decode cX11_body 120 = .ok (.aload_n 0, 1) := by decide +kernel
theorem dX11_body_121 : decode cX11_body 121 = .ok (.invokevirtual 190, 3) := by decide +kernel
theorem dX11_body_124 : decode cX11_body 124 = .ok (.ifCond .eq 100, 3) := by decide +kernel
theorem dX11_body_127 : decode cX11_body 127 = .ok (.aload_n 0, 1) := by decide +kernel
theorem dX11_body_128 : decode cX11_body 128 = .ok (.getfield 45, 3) := by decide +kernel
theorem dX11_body_131 : decode cX11_body 131 = .ok (.iload_n 1, 1) := by decide +kernel
theorem dX11_body_132 : decode cX11_body 132 = .ok (.iaload, 1) := by decide +kernel
theorem dX11_body_133 : decode cX11_body 133 = .ok (.iconst 4, 1) := by decide +kernel
theorem dX11_body_134 : decode cX11_body 134 = .ok (.if_icmp .ge 90, 3) := by decide +kernel
theorem dX11_body_137 : decode cX11_body 137 = .ok (.aload_n 0, 1) := by decide +kernel
theorem dX11_body_138 : decode cX11_body 138 = .ok (.invokevirtual 206, 3) := by decide +kernel
theorem dX11_body_141 : decode cX11_body 141 = .ok (.ifCond .eq 83, 3) := by decide +kernel
theorem dX11_body_144 : decode cX11_body 144 = .ok (.aload_n 0, 1) := by decide +kernel
theorem dX11_body_145 : decode cX11_body 145 = .ok (.iload_n 1, 1) := by decide +kernel
theorem dX11_body_146 : decode cX11_body 146 = .ok (.invokevirtual 222, 3) := by decide +kernel
theorem dX11_body_149 : decode cX11_body 149 = .ok (.goto (-29), 3) := by decide +kernel
theorem dX11_body_152 : decode cX11_body 152 = .ok (.aload_n 0, 1) := by decide +kernel
theorem dX11_body_153 : decode cX11_body 153 = .ok (.invokevirtual 200, 3) := by decide +kernel
theorem dX11_body_156 : decode cX11_body 156 = .ok (.aload_n 0, 1) := by decide +kernel
theorem dX11_body_157 : decode cX11_body 157 = .ok (.getfield 15, 3) := by decide +kernel
theorem dX11_body_160 : decode cX11_body 160 = .ok (.iload_n 1, 1) := by decide +kernel
theorem dX11_body_161 : decode cX11_body 161 = .ok (.iconst 2, 1) := by decide +kernel
theorem dX11_body_162 : decode cX11_body 162 = .ok (.iastore, 1) := by decide +kernel
theorem dX11_body_163 : decode cX11_body 163 = .ok (.aload_n 0, 1) := by decide +kernel
theorem dX11_body_164 : decode cX11_body 164 = .ok (.iload_n 1, 1) := by decide +kernel
theorem dX11_body_165 : decode cX11_body 165 = .ok (.invokevirtual 222, 3) := by decide +kernel
theorem dX11_body_168 : decode cX11_body 168 = .ok (.aload_n 0, 1) := by decide +kernel
theorem dX11_body_169 : decode cX11_body 169 = .ok (.getfield 33, 3) := by decide +kernel
theorem dX11_body_172 : decode cX11_body 172 = .ok (.iload_n 1, 1) := by decide +kernel
theorem dX11_body_173 : decode cX11_body 173 = .ok (.aload_n 0, 1) := by decide +kernel
theorem dX11_body_174 : decode cX11_body 174 = .ok (.lconst 0, 1) := by decide +kernel
theorem dX11_body_175 : decode cX11_body 175 = .ok (.ldc2_w 225, 3) := by decide +kernel
theorem dX11_body_178 : decode cX11_body 178 = .ok (.invokevirtual 227, 3) := by decide +kernel
theorem dX11_body_181 : decode cX11_body 181 = .ok (.lastore, 1) := by decide +kernel
theorem dX11_body_182 : decode cX11_body 182 = .ok (.goto 42, 3) := by decide +kernel
theorem dX11_body_185 : decode cX11_body 185 = .ok (.aload_n 0, 1) := by decide +kernel
theorem dX11_body_186 : decode cX11_body 186 = .ok (.invokevirtual 200, 3) := by decide +kernel
theorem dX11_body_189 : decode cX11_body 189 = .ok (.aload_n 0, 1) := by decide +kernel
theorem dX11_body_190 : decode cX11_body 190 = .ok (.getfield 15, 3) := by decide +kernel
theorem dX11_body_193 : decode cX11_body 193 = .ok (.iload_n 1, 1) := by decide +kernel
theorem dX11_body_194 : decode cX11_body 194 = .ok (.iconst 3, 1) := by decide +kernel
theorem dX11_body_195 : decode cX11_body 195 = .ok (.iastore, 1) := by decide +kernel
theorem dX11_body_196 : decode cX11_body 196 = .ok (.aload_n 0, 1) := by decide +kernel
theorem dX11_body_197 : decode cX11_body 197 = .ok (.iload_n 1, 1) := by decide +kernel
theorem dX11_body_198 : decode cX11_body 198 = .ok (.invokevirtual 222, 3) := by decide +kernel
theorem dX11_body_201 : decode cX11_body 201 = .ok (.goto 23, 3) := by decide +kernel
theorem dX11_body_204 : decode cX11_body 204 = .ok (.aload_n 0, 1) := by decide +kernel
theorem dX11_body_205 : decode cX11_body 205 = .ok (.iload_n 1, 1) := by decide +kernel
theorem dX11_body_206 : decode cX11_body 206 = .ok (.invokevirtual 231, 3) := by decide +kernel
theorem dX11_body_209 : decode cX11_body 209 = .ok (.goto 15, 3) := by decide +kernel
theorem dX11_body_212 : decode cX11_body 212 = .ok (.aload_n 0, 1) := by decide +kernel
theorem dX11_body_213 : decode cX11_body 213 = .ok (.iload_n 1, 1) := by decide +kernel
theorem dX11_body_214 : decode cX11_body 214 = .ok (.invokevirtual 234, 3) := by decide +kernel
theorem dX11_body_217 : decode cX11_body 217 = .ok (.goto 7, 3) := by decide +kernel
theorem dX11_body_220 : decode cX11_body 220 = .ok (.aload_n 0, 1) := by decide +kernel
theorem dX11_body_221 : decode cX11_body 221 = .ok (.invokevirtual 197, 3) := by decide +kernel
theorem dX11_body_224 : decode cX11_body 224 = .ok (.return_, 1) := by decide +kernel
theorem dX11_source_0 : decode cX11_source 0 = .ok (.aload_n 0, 1) := by decide +kernel
theorem dX11_source_1 : decode cX11_source 1 = .ok (.getfield 26, 3) := by decide +kernel
theorem dX11_source_4 : decode cX11_source 4 = .ok (.iload_n 1, 1) := by decide +kernel
theorem dX11_source_5 : decode cX11_source 5 = .ok (.aload_n 0, 1) := by decide +kernel
theorem dX11_source_6 : decode cX11_source 6 = .ok (.lconst 1, 1) := by decide +kernel
theorem dX11_source_7 : decode cX11_source 7 = .ok (.ldc2_w 237, 3) := by decide +kernel
theorem dX11_source_10 : decode cX11_source 10 = .ok (.invokevirtual 227, 3) := by decide +kernel
theorem dX11_source_13 : decode cX11_source 13 = .ok (.l2i, 1) := by decide +kernel
theorem dX11_source_14 : decode cX11_source 14 = .ok (.iastore, 1) := by decide +kernel
theorem dX11_source_15 : decode cX11_source 15 = .ok (.aload_n 0, 1) := by decide +kernel
theorem dX11_source_16 : decode cX11_source 16 = .ok (.invokevirtual 190, 3) := by decide +kernel
theorem dX11_source_19 : decode cX11_source 19 = .ok (.ifCond .eq 39, 3) := by decide +kernel
theorem dX11_source_22 : decode cX11_source 22 = .ok (.aload_n 0, 1) := by decide +kernel
theorem dX11_source_23 : decode cX11_source 23 = .ok (.iconst 1, 1) := by decide +kernel
theorem dX11_source_24 : decode cX11_source 24 = .ok (.invokevirtual 194, 3) := by decide +kernel
theorem dX11_source_27 : decode cX11_source 27 = .ok (.ifCond .eq 31, 3) := by decide +kernel
theorem dX11_source_30 : decode cX11_source 30 = .ok (.aload_n 0, 1) := by decide +kernel
theorem dX11_source_31 : decode cX11_source 31 = .ok (.invokevirtual 200, 3) := by decide +kernel
theorem dX11_source_34 : decode cX11_source 34 = .ok (.aload_n 0, 1) := by decide +kernel
theorem dX11_source_35 : decode cX11_source 35 = .ok (.getfield 29, 3) := by decide +kernel
theorem dX11_source_38 : decode cX11_source 38 = .ok (.iload_n 1, 1) := by decide +kernel
theorem dX11_source_39 : decode cX11_source 39 = .ok (.iconst 1, 1) := by decide +kernel
theorem dX11_source_40 : decode cX11_source 40 = .ok (.bastore, 1) := by decide +kernel
theorem dX11_source_41 : decode cX11_source 41 = .ok (.aload_n 0, 1) := by decide +kernel
theorem dX11_source_42 : decode cX11_source 42 = .ok (.getfield 33, 3) := by decide +kernel
theorem dX11_source_45 : decode cX11_source 45 = .ok (.iload_n 1, 1) := by decide +kernel
theorem dX11_source_46 : decode cX11_source 46 = .ok (.aload_n 0, 1) := by decide +kernel
theorem dX11_source_47 : decode cX11_source 47 = .ok (.lconst 0, 1) := by decide +kernel
theorem dX11_source_48 : decode cX11_source 48 = .ok (.ldc2_w 225, 3) := by decide +kernel
theorem dX11_source_51 : decode cX11_source 51 = .ok (.invokevirtual 227, 3) := by decide +kernel
theorem dX11_source_54 : decode cX11_source 54 = .ok (.lastore, 1) := by decide +kernel
theorem dX11_source_55 : decode cX11_source 55 = .ok (.goto 8, 3) := by decide +kernel
theorem dX11_source_58 : decode cX11_source 58 = .ok (.aload_n 0, 1) := by decide +kernel
theorem dX11_source_59 : decode cX11_source 59 = .ok (.iconst 2, 1) := by decide +kernel
theorem dX11_source_60 : decode cX11_source 60 = .ok (.invokevirtual 239, 3) := by decide +kernel
theorem dX11_source_63 : decode cX11_source 63 = .ok (.aload_n 0, 1) := by decide +kernel
theorem dX11_source_64 : decode cX11_source 64 = .ok (.invokevirtual 190, 3) := by decide +kernel
theorem dX11_source_67 : decode cX11_source 67 = .ok (.ifCond .eq 30, 3) := by decide +kernel
theorem dX11_source_70 : decode cX11_source 70 = .ok (.aload_n 0, 1) := by decide +kernel
theorem dX11_source_71 : decode cX11_source 71 = .ok (.iconst 3, 1) := by decide +kernel
theorem dX11_source_72 : decode cX11_source 72 = .ok (.invokevirtual 194, 3) := by decide +kernel
theorem dX11_source_75 : decode cX11_source 75 = .ok (.ifCond .eq 22, 3) := by decide +kernel
theorem dX11_source_78 : decode cX11_source 78 = .ok (.aload_n 0, 1) := by decide +kernel
theorem dX11_source_79 : decode cX11_source 79 = .ok (.invokevirtual 200, 3) := by decide +kernel
theorem dX11_source_82 : decode cX11_source 82 = .ok (.aload_n 0, 1) := by decide +kernel
theorem dX11_source_83 : decode cX11_source 83 = .ok (.getfield 39, 3) := by decide +kernel
theorem dX11_source_86 : decode cX11_source 86 = .ok (.iload_n 1, 1) := by decide +kernel
theorem dX11_source_87 : decode cX11_source 87 = .ok (.aload_n 0, 1) := by decide +kernel
theorem dX11_source_88 : decode cX11_source 88 = .ok (.lconst 1, 1) := by decide +kernel
theorem dX11_source_89 : decode cX11_source 89 = .ok (.ldc2_w 242, 3) := by decide +kernel
theorem dX11_source_92 : decode cX11_source 92 = .ok (.invokevirtual 227, 3) := by decide +kernel
theorem dX11_source_95 : decode cX11_source 95 = .ok (.l2i, 1) := by decide +kernel
theorem dX11_source_96 : decode cX11_source 96 = .ok (.iastore, 1) := by decide +kernel
theorem dX11_source_97 : decode cX11_source 97 = .ok (.aload_n 0, 1) := by decide +kernel
theorem dX11_source_98 : decode cX11_source 98 = .ok (.invokevirtual 190, 3) := by decide +kernel
theorem dX11_source_101 : decode cX11_source 101 = .ok (.ifCond .eq 30, 3) := by decide +kernel
theorem dX11_source_104 : decode cX11_source 104 = .ok (.aload_n 0, 1) := by decide +kernel
theorem dX11_source_105 : decode cX11_source 105 = .ok (.iconst 4, 1) := by decide +kernel
theorem dX11_source_106 : decode cX11_source 106 = .ok (.invokevirtual 194, 3) := by decide +kernel
theorem dX11_source_109 : decode cX11_source 109 = .ok (.ifCond .eq 22, 3) := by decide +kernel
theorem dX11_source_112 : decode cX11_source 112 = .ok (.aload_n 0, 1) := by decide +kernel
theorem dX11_source_113 : decode cX11_source 113 = .ok (.invokevirtual 200, 3) := by decide +kernel
theorem dX11_source_116 : decode cX11_source 116 = .ok (.aload_n 0, 1) := by decide +kernel
theorem dX11_source_117 : decode cX11_source 117 = .ok (.getfield 42, 3) := by decide +kernel
theorem dX11_source_120 : decode cX11_source 120 = .ok (.iload_n 1, 1) := by decide +kernel
theorem dX11_source_121 : decode cX11_source 121 = .ok (.aload_n 0, 1) := by decide +kernel
theorem dX11_source_122 : decode cX11_source 122 = .ok (.lconst 0, 1) := by decide +kernel
theorem dX11_source_123 : decode cX11_source 123 = .ok (.ldc2_w 244, 3) := by decide +kernel
theorem dX11_source_126 : decode cX11_source 126 = .ok (.invokevirtual 227, 3) := by decide +kernel
theorem dX11_source_129 : decode cX11_source 129 = .ok (.l2i, 1) := by decide +kernel
theorem dX11_source_130 : decode cX11_source 130 = .ok (.iastore, 1) := by decide +kernel
theorem dX11_source_131 : decode cX11_source 131 = .ok (.return_, 1) := by decide +kernel
theorem dX11_takeInput_0 : decode cX11_takeInput 0 = .ok (.aload_n 0, 1) := by decide +kernel
theorem dX11_takeInput_1 : decode cX11_takeInput 1 = .ok (.invokevirtual 190, 3) := by decide +kernel
theorem dX11_takeInput_4 : decode cX11_takeInput 4 = .ok (.ifCond .eq 14, 3) := by decide +kernel
theorem dX11_takeInput_7 : decode cX11_takeInput 7 = .ok (.aload_n 0, 1) := by decide +kernel
theorem dX11_takeInput_8 : decode cX11_takeInput 8 = .ok (.invokevirtual 206, 3) := by decide +kernel
theorem dX11_takeInput_11 : decode cX11_takeInput 11 = .ok (.ifCond .ne 7, 3) := by decide +kernel
theorem dX11_takeInput_14 : decode cX11_takeInput 14 = .ok (.aload_n 0, 1) := by decide +kernel
theorem dX11_takeInput_15 : decode cX11_takeInput 15 = .ok (.invokevirtual 197, 3) := by decide +kernel
theorem dX11_takeInput_18 : decode cX11_takeInput 18 = .ok (.aload_n 0, 1) := by decide +kernel
theorem dX11_takeInput_19 : decode cX11_takeInput 19 = .ok (.invokevirtual 190, 3) := by decide +kernel
theorem dX11_takeInput_22 : decode cX11_takeInput 22 = .ok (.ifCond .ne 4, 3) := by decide +kernel
theorem dX11_takeInput_25 : decode cX11_takeInput 25 = .ok (.return_, 1) := by decide +kernel
theorem dX11_takeInput_26 : decode cX11_takeInput 26 = .ok (.aload_n 0, 1) := by decide +kernel
theorem dX11_takeInput_27 : decode cX11_takeInput 27 = .ok (.aload_n 0, 1) := by decide +kernel
theorem dX11_takeInput_28 : decode cX11_takeInput 28 = .ok (.getfield 140, 3) := by decide +kernel
theorem dX11_takeInput_31 : decode cX11_takeInput 31 = .ok (.invokevirtual 209, 3) := by decide +kernel
theorem dX11_takeInput_34 : decode cX11_takeInput 34 = .ok (.istore_n 2, 1) := by decide +kernel
theorem dX11_takeInput_35 : decode cX11_takeInput 35 = .ok (.iload_n 2, 1) := by decide +kernel
theorem dX11_takeInput_36 : decode cX11_takeInput 36 = .ok (.ifCond .lt 12, 3) := by decide +kernel
theorem dX11_takeInput_39 : decode cX11_takeInput 39 = .ok (.aload_n 0, 1) := by decide +kernel
theorem dX11_takeInput_40 : decode cX11_takeInput 40 = .ok (.getfield 51, 3) := by decide +kernel
theorem dX11_takeInput_43 : decode cX11_takeInput 43 = .ok (.iload_n 2, 1) := by decide +kernel
theorem dX11_takeInput_44 : decode cX11_takeInput 44 = .ok (.iaload, 1) := by decide +kernel
theorem dX11_takeInput_45 : decode cX11_takeInput 45 = .ok (.ifCond .lt 9, 3) := by decide +kernel
theorem dX11_takeInput_48 : decode cX11_takeInput 48 = .ok (.aload_n 0, 1) := by decide +kernel
theorem dX11_takeInput_49 : decode cX11_takeInput 49 = .ok (.iconst 4, 1) := by decide +kernel
theorem dX11_takeInput_50 : decode cX11_takeInput 50 = .ok (.invokevirtual 187, 3) := by decide +kernel
theorem dX11_takeInput_53 : decode cX11_takeInput 53 = .ok (.return_, 1) := by decide +kernel
theorem dX11_takeInput_54 : decode cX11_takeInput 54 = .ok (.aload_n 0, 1) := by decide +kernel
theorem dX11_takeInput_55 : decode cX11_takeInput 55 = .ok (.getfield 51, 3) := by decide +kernel
theorem dX11_takeInput_58 : decode cX11_takeInput 58 = .ok (.iload_n 2, 1) := by decide +kernel
theorem dX11_takeInput_59 : decode cX11_takeInput 59 = .ok (.iload_n 1, 1) := by decide +kernel
theorem dX11_takeInput_60 : decode cX11_takeInput 60 = .ok (.iastore, 1) := by decide +kernel
theorem dX11_takeInput_61 : decode cX11_takeInput 61 = .ok (.aload_n 0, 1) := by decide +kernel
theorem dX11_takeInput_62 : decode cX11_takeInput 62 = .ok (.getfield 48, 3) := by decide +kernel
theorem dX11_takeInput_65 : decode cX11_takeInput 65 = .ok (.iconst 4, 1) := by decide +kernel
theorem dX11_takeInput_66 : decode cX11_takeInput 66 = .ok (.iload_n 1, 1) := by decide +kernel
theorem dX11_takeInput_67 : decode cX11_takeInput 67 = .ok (.imul, 1) := by decide +kernel
theorem dX11_takeInput_68 : decode cX11_takeInput 68 = .ok (.aload_n 0, 1) := by decide +kernel
theorem dX11_takeInput_69 : decode cX11_takeInput 69 = .ok (.getfield 45, 3) := by decide +kernel
theorem dX11_takeInput_72 : decode cX11_takeInput 72 = .ok (.iload_n 1, 1) := by decide +kernel
theorem dX11_takeInput_73 : decode cX11_takeInput 73 = .ok (.iaload, 1) := by decide +kernel
theorem dX11_takeInput_74 : decode cX11_takeInput 74 = .ok (.iadd, 1) := by decide +kernel
theorem dX11_takeInput_75 : decode cX11_takeInput 75 = .ok (.iload_n 2, 1) := by decide +kernel
theorem dX11_takeInput_76 : decode cX11_takeInput 76 = .ok (.iastore, 1) := by decide +kernel
theorem dX11_takeInput_77 : decode cX11_takeInput 77 = .ok (.aload_n 0, 1) := by decide +kernel
theorem dX11_takeInput_78 : decode cX11_takeInput 78 = .ok (.getfield 45, 3) := by decide +kernel
theorem dX11_takeInput_81 : decode cX11_takeInput 81 = .ok (.iload_n 1, 1) := by decide +kernel
theorem dX11_takeInput_82 : decode cX11_takeInput 82 = .ok (.dup2, 1) := by decide +kernel
theorem dX11_takeInput_83 : decode cX11_takeInput 83 = .ok (.iaload, 1) := by decide +kernel
theorem dX11_takeInput_84 : decode cX11_takeInput 84 = .ok (.iconst 1, 1) := by decide +kernel
theorem dX11_takeInput_85 : decode cX11_takeInput 85 = .ok (.iadd, 1) := by decide +kernel
theorem dX11_takeInput_86 : decode cX11_takeInput 86 = .ok (.iastore, 1) := by decide +kernel
theorem dX11_takeInput_87 : decode cX11_takeInput 87 = .ok (.aload_n 0, 1) := by decide +kernel
theorem dX11_takeInput_88 : decode cX11_takeInput 88 = .ok (.invokevirtual 200, 3) := by decide +kernel
theorem dX11_takeInput_91 : decode cX11_takeInput 91 = .ok (.return_, 1) := by decide +kernel
theorem dX11_join_0 : decode cX11_join 0 = .ok (.aload_n 0, 1) := by decide +kernel
theorem dX11_join_1 : decode cX11_join 1 = .ok (.getfield 246, 3) := by decide +kernel
theorem dX11_join_4 : decode cX11_join 4 = .ok (.iconst 3, 1) := by decide +kernel
theorem dX11_join_5 : decode cX11_join 5 = .ok (.if_icmp .ne 10, 3) := by decide +kernel
theorem dX11_join_8 : decode cX11_join 8 = .ok (.aload_n 0, 1) := by decide +kernel
theorem dX11_join_9 : decode cX11_join 9 = .ok (.bipush 6, 2) := by decide +kernel
theorem dX11_join_11 : decode cX11_join 11 = .ok (.invokevirtual 187, 3) := by decide +kernel
theorem dX11_join_14 : decode cX11_join 14 = .ok (.return_, 1) := by decide +kernel
theorem dX11_join_15 : decode cX11_join 15 = .ok (.aload_n 0, 1) := by decide +kernel
theorem dX11_join_16 : decode cX11_join 16 = .ok (.dup, 1) := by decide +kernel
theorem dX11_join_17 : decode cX11_join 17 = .ok (.getfield 246, 3) := by decide +kernel
theorem dX11_join_20 : decode cX11_join 20 = .ok (.iconst 1, 1) := by decide +kernel
theorem dX11_join_21 : decode cX11_join 21 = .ok (.iadd, 1) := by decide +kernel
theorem dX11_join_22 : decode cX11_join 22 = .ok (.putfield 246, 3) := by decide +kernel
theorem dX11_join_25 : decode cX11_join 25 = .ok (.aload_n 0, 1) := by decide +kernel
theorem dX11_join_26 : decode cX11_join 26 = .ok (.invokevirtual 200, 3) := by decide +kernel
theorem dX11_join_29 : decode cX11_join 29 = .ok (.aload_n 0, 1) := by decide +kernel
theorem dX11_join_30 : decode cX11_join 30 = .ok (.getfield 15, 3) := by decide +kernel
theorem dX11_join_33 : decode cX11_join 33 = .ok (.iload_n 1, 1) := by decide +kernel
theorem dX11_join_34 : decode cX11_join 34 = .ok (.iconst 4, 1) := by decide +kernel
theorem dX11_join_35 : decode cX11_join 35 = .ok (.iastore, 1) := by decide +kernel
theorem dX11_join_36 : decode cX11_join 36 = .ok (.aload_n 0, 1) := by decide +kernel
theorem dX11_join_37 : decode cX11_join 37 = .ok (.iload_n 1, 1) := by decide +kernel
theorem dX11_join_38 : decode cX11_join 38 = .ok (.invokevirtual 222, 3) := by decide +kernel
theorem dX11_join_41 : decode cX11_join 41 = .ok (.aload_n 0, 1) := by decide +kernel
theorem dX11_join_42 : decode cX11_join 42 = .ok (.iload_n 1, 1) := by decide +kernel
theorem dX11_join_43 : decode cX11_join 43 = .ok (.invokevirtual 222, 3) := by decide +kernel
theorem dX11_join_46 : decode cX11_join 46 = .ok (.aload_n 0, 1) := by decide +kernel
theorem dX11_join_47 : decode cX11_join 47 = .ok (.bipush 9, 2) := by decide +kernel
theorem dX11_join_49 : decode cX11_join 49 = .ok (.invokevirtual 239, 3) := by decide +kernel
theorem dX11_join_52 : decode cX11_join 52 = .ok (.aload_n 0, 1) := by decide +kernel
theorem dX11_join_53 : decode cX11_join 53 = .ok (.getfield 33, 3) := by decide +kernel
theorem dX11_join_56 : decode cX11_join 56 = .ok (.iload_n 1, 1) := by decide +kernel
theorem dX11_join_57 : decode cX11_join 57 = .ok (.aload_n 0, 1) := by decide +kernel
theorem dX11_join_58 : decode cX11_join 58 = .ok (.ldc2_w 249, 3) := by decide +kernel
theorem dX11_join_61 : decode cX11_join 61 = .ok (.invokevirtual 251, 3) := by decide +kernel
theorem dX11_join_64 : decode cX11_join 64 = .ok (.lastore, 1) := by decide +kernel
theorem dX11_join_65 : decode cX11_join 65 = .ok (.aload_n 0, 1) := by decide +kernel
theorem dX11_join_66 : decode cX11_join 66 = .ok (.bipush 10, 2) := by decide +kernel
theorem dX11_join_68 : decode cX11_join 68 = .ok (.invokevirtual 239, 3) := by decide +kernel
theorem dX11_join_71 : decode cX11_join 71 = .ok (.aload_n 0, 1) := by decide +kernel
theorem dX11_join_72 : decode cX11_join 72 = .ok (.getfield 36, 3) := by decide +kernel
theorem dX11_join_75 : decode cX11_join 75 = .ok (.iload_n 1, 1) := by decide +kernel
theorem dX11_join_76 : decode cX11_join 76 = .ok (.aload_n 0, 1) := by decide +kernel
theorem dX11_join_77 : decode cX11_join 77 = .ok (.aload_n 0, 1) := by decide +kernel
theorem dX11_join_78 : decode cX11_join 78 = .ok (.getfield 33, 3) := by decide +kernel
theorem dX11_join_81 : decode cX11_join 81 = .ok (.iload_n 1, 1) := by decide +kernel
theorem dX11_join_82 : decode cX11_join 82 = .ok (.laload, 1) := by decide +kernel
theorem dX11_join_83 : decode cX11_join 83 = .ok (.invokevirtual 251, 3) := by decide +kernel
theorem dX11_join_86 : decode cX11_join 86 = .ok (.lastore, 1) := by decide +kernel
theorem dX11_join_87 : decode cX11_join 87 = .ok (.return_, 1) := by decide +kernel
theorem dX11_takeSigned_0 : decode cX11_takeSigned 0 = .ok (.aload_n 0, 1) := by decide +kernel
theorem dX11_takeSigned_1 : decode cX11_takeSigned 1 = .ok (.invokevirtual 190, 3) := by decide +kernel
theorem dX11_takeSigned_4 : decode cX11_takeSigned 4 = .ok (.ifCond .eq 26, 3) := by decide +kernel
theorem dX11_takeSigned_7 : decode cX11_takeSigned 7 = .ok (.aload_n 0, 1) := by decide +kernel
theorem dX11_takeSigned_8 : decode cX11_takeSigned 8 = .ok (.getfield 147, 3) := by decide +kernel
theorem dX11_takeSigned_11 : decode cX11_takeSigned 11 = .ok (.iconst 3, 1) := by decide +kernel
theorem dX11_takeSigned_12 : decode cX11_takeSigned 12 = .ok (.if_icmp .ne 18, 3) := by decide +kernel
theorem dX11_takeSigned_15 : decode cX11_takeSigned 15 = .ok (.aload_n 0, 1) := by decide +kernel
theorem dX11_takeSigned_16 : decode cX11_takeSigned 16 = .ok (.getfield 140, 3) := by decide +kernel
theorem dX11_takeSigned_19 : decode cX11_takeSigned 19 = .ok (.ldc2_w 255, 3) := by decide +kernel
theorem dX11_takeSigned_22 : decode cX11_takeSigned 22 = .ok (.lcmp, 1) := by decide +kernel
theorem dX11_takeSigned_23 : decode cX11_takeSigned 23 = .ok (.ifCond .ne 7, 3) := by decide +kernel
theorem dX11_takeSigned_26 : decode cX11_takeSigned 26 = .ok (.iconst 1, 1) := by decide +kernel
theorem dX11_takeSigned_27 : decode cX11_takeSigned 27 = .ok (.goto 4, 3) := by decide +kernel
theorem dX11_takeSigned_30 : decode cX11_takeSigned 30 = .ok (.iconst 0, 1) := by decide +kernel
theorem dX11_takeSigned_31 : decode cX11_takeSigned 31 = .ok (.istore_n 3, 1) := by decide +kernel
theorem dX11_takeSigned_32 : decode cX11_takeSigned 32 = .ok (.iload_n 3, 1) := by decide +kernel
theorem dX11_takeSigned_33 : decode cX11_takeSigned 33 = .ok (.ifCond .eq 7, 3) := by decide +kernel
theorem dX11_takeSigned_36 : decode cX11_takeSigned 36 = .ok (.aload_n 0, 1) := by decide +kernel
theorem dX11_takeSigned_37 : decode cX11_takeSigned 37 = .ok (.invokevirtual 200, 3) := by decide +kernel
theorem dX11_takeSigned_40 : decode cX11_takeSigned 40 = .ok (.aload_n 0, 1) := by decide +kernel
theorem dX11_takeSigned_41 : decode cX11_takeSigned 41 = .ok (.invokevirtual 190, 3) := by decide +kernel
theorem dX11_takeSigned_44 : decode cX11_takeSigned 44 = .ok (.ifCond .eq 15, 3) := by decide +kernel
theorem dX11_takeSigned_47 : decode cX11_takeSigned 47 = .ok (.aload_n 0, 1) := by decide +kernel
theorem dX11_takeSigned_48 : decode cX11_takeSigned 48 = .ok (.getfield 147, 3) := by decide +kernel
theorem dX11_takeSigned_51 : decode cX11_takeSigned 51 = .ok (.iconst 2, 1) := by decide +kernel
theorem dX11_takeSigned_52 : decode cX11_takeSigned 52 = .ok (.if_icmp .eq 7, 3) := by decide +kernel
theorem dX11_takeSigned_55 : decode cX11_takeSigned 55 = .ok (.aload_n 0, 1) := by decide +kernel
theorem dX11_takeSigned_56 : decode cX11_takeSigned 56 = .ok (.invokevirtual 197, 3) := by decide +kernel
theorem dX11_takeSigned_59 : decode cX11_takeSigned 59 = .ok (.aload_n 0, 1) := by decide +kernel
theorem dX11_takeSigned_60 : decode cX11_takeSigned 60 = .ok (.invokevirtual 190, 3) := by decide +kernel
theorem dX11_takeSigned_63 : decode cX11_takeSigned 63 = .ok (.ifCond .ne 5, 3) := by decide +kernel
theorem dX11_takeSigned_66 : decode cX11_takeSigned 66 = .ok (.lconst 0, 1) := by decide +kernel
theorem dX11_takeSigned_67 : decode cX11_takeSigned 67 = .ok (.lreturn, 1) := by decide +kernel
theorem dX11_takeSigned_68 : decode cX11_takeSigned 68 = .ok (.iload_n 3, 1) := by decide +kernel
theorem dX11_takeSigned_69 : decode cX11_takeSigned 69 = .ok (.ifCond .eq 11, 3) := by decide +kernel
theorem dX11_takeSigned_72 : decode cX11_takeSigned 72 = .ok (.aload_n 0, 1) := by decide +kernel
theorem dX11_takeSigned_73 : decode cX11_takeSigned 73 = .ok (.getfield 140, 3) := by decide +kernel
theorem dX11_takeSigned_76 : decode cX11_takeSigned 76 = .ok (.lneg, 1) := by decide +kernel
theorem dX11_takeSigned_77 : decode cX11_takeSigned 77 = .ok (.goto 7, 3) := by decide +kernel
theorem dX11_takeSigned_80 : decode cX11_takeSigned 80 = .ok (.aload_n 0, 1) := by decide +kernel
theorem dX11_takeSigned_81 : decode cX11_takeSigned 81 = .ok (.getfield 140, 3) := by decide +kernel
theorem dX11_takeSigned_84 : decode cX11_takeSigned 84 = .ok (.lstore 4, 2) := by decide +kernel
theorem dX11_takeSigned_86 : decode cX11_takeSigned 86 = .ok (.lload 4, 2) := by decide +kernel
theorem dX11_takeSigned_88 : decode cX11_takeSigned 88 = .ok (.lload_n 1, 1) := by decide +kernel
theorem dX11_takeSigned_89 : decode cX11_takeSigned 89 = .ok (.lcmp, 1) := by decide +kernel
theorem dX11_takeSigned_90 : decode cX11_takeSigned 90 = .ok (.ifCond .ge 10, 3) := by decide +kernel
theorem dX11_takeSigned_93 : decode cX11_takeSigned 93 = .ok (.aload_n 0, 1) := by decide +kernel
theorem dX11_takeSigned_94 : decode cX11_takeSigned 94 = .ok (.iconst 5, 1) := by decide +kernel
theorem dX11_takeSigned_95 : decode cX11_takeSigned 95 = .ok (.invokevirtual 187, 3) := by decide +kernel
theorem dX11_takeSigned_98 : decode cX11_takeSigned 98 = .ok (.lconst 0, 1) := by decide +kernel
theorem dX11_takeSigned_99 : decode cX11_takeSigned 99 = .ok (.lreturn, 1) := by decide +kernel
theorem dX11_takeSigned_100 : decode cX11_takeSigned 100 = .ok (.aload_n 0, 1) := by decide +kernel
theorem dX11_takeSigned_101 : decode cX11_takeSigned 101 = .ok (.invokevirtual 200, 3) := by decide +kernel
theorem dX11_takeSigned_104 : decode cX11_takeSigned 104 = .ok (.lload 4, 2) := by decide +kernel
theorem dX11_takeSigned_106 : decode cX11_takeSigned 106 = .ok (.lreturn, 1) := by decide +kernel
theorem dX11_window_0 : decode cX11_window 0 = .ok (.aload_n 0, 1) := by decide +kernel
theorem dX11_window_1 : decode cX11_window 1 = .ok (.getfield 257, 3) := by decide +kernel
theorem dX11_window_4 : decode cX11_window 4 = .ok (.iconst 3, 1) := by decide +kernel
theorem dX11_window_5 : decode cX11_window 5 = .ok (.if_icmp .ne 10, 3) := by decide +kernel
theorem dX11_window_8 : decode cX11_window 8 = .ok (.aload_n 0, 1) := by decide +kernel
theorem dX11_window_9 : decode cX11_window 9 = .ok (.bipush 6, 2) := by decide +kernel
theorem dX11_window_11 : decode cX11_window 11 = .ok (.invokevirtual 187, 3) := by decide +kernel
theorem dX11_window_14 : decode cX11_window 14 = .ok (.return_, 1) := by decide +kernel
theorem dX11_window_15 : decode cX11_window 15 = .ok (.aload_n 0, 1) := by decide +kernel
theorem dX11_window_16 : decode cX11_window 16 = .ok (.dup, 1) := by decide +kernel
theorem dX11_window_17 : decode cX11_window 17 = .ok (.getfield 257, 3) := by decide +kernel
theorem dX11_window_20 : decode cX11_window 20 = .ok (.iconst 1, 1) := by decide +kernel
theorem dX11_window_21 : decode cX11_window 21 = .ok (.iadd, 1) := by decide +kernel
theorem dX11_window_22 : decode cX11_window 22 = .ok (.putfield 257, 3) := by decide +kernel
theorem dX11_window_25 : decode cX11_window 25 = .ok (.aload_n 0, 1) := by decide +kernel
theorem dX11_window_26 : decode cX11_window 26 = .ok (.invokevirtual 200, 3) := by decide +kernel
theorem dX11_window_29 : decode cX11_window 29 = .ok (.aload_n 0, 1) := by decide +kernel
theorem dX11_window_30 : decode cX11_window 30 = .ok (.getfield 15, 3) := by decide +kernel
theorem dX11_window_33 : decode cX11_window 33 = .ok (.iload_n 1, 1) := by decide +kernel
theorem dX11_window_34 : decode cX11_window 34 = .ok (.iconst 5, 1) := by decide +kernel
theorem dX11_window_35 : decode cX11_window 35 = .ok (.iastore, 1) := by decide +kernel
theorem dX11_window_36 : decode cX11_window 36 = .ok (.aload_n 0, 1) := by decide +kernel
theorem dX11_window_37 : decode cX11_window 37 = .ok (.iload_n 1, 1) := by decide +kernel
theorem dX11_window_38 : decode cX11_window 38 = .ok (.invokevirtual 222, 3) := by decide +kernel
theorem dX11_window_41 : decode cX11_window 41 = .ok (.aload_n 0, 1) := by decide +kernel
theorem dX11_window_42 : decode cX11_window 42 = .ok (.bipush 12, 2) := by decide +kernel
theorem dX11_window_44 : decode cX11_window 44 = .ok (.invokevirtual 239, 3) := by decide +kernel
theorem dX11_window_47 : decode cX11_window 47 = .ok (.aload_n 0, 1) := by decide +kernel
theorem dX11_window_48 : decode cX11_window 48 = .ok (.getfield 33, 3) := by decide +kernel
theorem dX11_window_51 : decode cX11_window 51 = .ok (.iload_n 1, 1) := by decide +kernel
theorem dX11_window_52 : decode cX11_window 52 = .ok (.aload_n 0, 1) := by decide +kernel
theorem dX11_window_53 : decode cX11_window 53 = .ok (.lconst 1, 1) := by decide +kernel
theorem dX11_window_54 : decode cX11_window 54 = .ok (.ldc2_w 260, 3) := by decide +kernel
theorem dX11_window_57 : decode cX11_window 57 = .ok (.invokevirtual 227, 3) := by decide +kernel
theorem dX11_window_60 : decode cX11_window 60 = .ok (.lastore, 1) := by decide +kernel
theorem dX11_window_61 : decode cX11_window 61 = .ok (.aload_n 0, 1) := by decide +kernel
theorem dX11_window_62 : decode cX11_window 62 = .ok (.bipush 13, 2) := by decide +kernel
theorem dX11_window_64 : decode cX11_window 64 = .ok (.invokevirtual 239, 3) := by decide +kernel
theorem dX11_window_67 : decode cX11_window 67 = .ok (.aload_n 0, 1) := by decide +kernel
theorem dX11_window_68 : decode cX11_window 68 = .ok (.invokevirtual 190, 3) := by decide +kernel
theorem dX11_window_71 : decode cX11_window 71 = .ok (.ifCond .eq 48, 3) := by decide +kernel
theorem dX11_window_74 : decode cX11_window 74 = .ok (.aload_n 0, 1) := by decide +kernel
theorem dX11_window_75 : decode cX11_window 75 = .ok (.getfield 147, 3) := by decide +kernel
theorem dX11_window_78 : decode cX11_window 78 = .ok (.iconst 2, 1) := by decide +kernel
theorem dX11_window_79 : decode cX11_window 79 = .ok (.if_icmp .ne 40, 3) := by decide +kernel
theorem dX11_window_82 : decode cX11_window 82 = .ok (.aload_n 0, 1) := by decide +kernel
theorem dX11_window_83 : decode cX11_window 83 = .ok (.getfield 140, 3) := by decide +kernel
theorem dX11_window_86 : decode cX11_window 86 = .ok (.aload_n 0, 1) := by decide +kernel
theorem dX11_window_87 : decode cX11_window 87 = .ok (.getfield 33, 3) := by decide +kernel
theorem dX11_window_90 : decode cX11_window 90 = .ok (.iload_n 1, 1) := by decide +kernel
theorem dX11_window_91 : decode cX11_window 91 = .ok (.laload, 1) := by decide +kernel
theorem dX11_window_92 : decode cX11_window 92 = .ok (.lcmp, 1) := by decide +kernel
theorem dX11_window_93 : decode cX11_window 93 = .ok (.ifCond .gt 21, 3) := by decide +kernel
theorem dX11_window_96 : decode cX11_window 96 = .ok (.aload_n 0, 1) := by decide +kernel
theorem dX11_window_97 : decode cX11_window 97 = .ok (.getfield 33, 3) := by decide +kernel
theorem dX11_window_100 : decode cX11_window 100 = .ok (.iload_n 1, 1) := by decide +kernel
theorem dX11_window_101 : decode cX11_window 101 = .ok (.laload, 1) := by decide +kernel
theorem dX11_window_102 : decode cX11_window 102 = .ok (.ldc2_w 237, 3) := by decide +kernel
theorem dX11_window_105 : decode cX11_window 105 = .ok (.aload_n 0, 1) := by decide +kernel
theorem dX11_window_106 : decode cX11_window 106 = .ok (.getfield 140, 3) := by decide +kernel
theorem dX11_window_109 : decode cX11_window 109 = .ok (.lmul, 1) := by decide +kernel
theorem dX11_window_110 : decode cX11_window 110 = .ok (.lcmp, 1) := by decide +kernel
theorem dX11_window_111 : decode cX11_window 111 = .ok (.ifCond .le 8, 3) := by decide +kernel
theorem dX11_window_114 : decode cX11_window 114 = .ok (.aload_n 0, 1) := by decide +kernel
theorem dX11_window_115 : decode cX11_window 115 = .ok (.iconst 5, 1) := by decide +kernel
theorem dX11_window_116 : decode cX11_window 116 = .ok (.invokevirtual 187, 3) := by decide +kernel
theorem dX11_window_119 : decode cX11_window 119 = .ok (.aload_n 0, 1) := by decide +kernel
theorem dX11_window_120 : decode cX11_window 120 = .ok (.getfield 36, 3) := by decide +kernel
theorem dX11_window_123 : decode cX11_window 123 = .ok (.iload_n 1, 1) := by decide +kernel
theorem dX11_window_124 : decode cX11_window 124 = .ok (.aload_n 0, 1) := by decide +kernel
theorem dX11_window_125 : decode cX11_window 125 = .ok (.lconst 1, 1) := by decide +kernel
theorem dX11_window_126 : decode cX11_window 126 = .ok (.ldc2_w 260, 3) := by decide +kernel
theorem dX11_window_129 : decode cX11_window 129 = .ok (.invokevirtual 227, 3) := by decide +kernel
theorem dX11_window_132 : decode cX11_window 132 = .ok (.lastore, 1) := by decide +kernel
theorem dX11_window_133 : decode cX11_window 133 = .ok (.return_, 1) := by decide +kernel
theorem dX11_align_0 : decode cX11_align 0 = .ok (.aload_n 0, 1) := by decide +kernel
theorem dX11_align_1 : decode cX11_align 1 = .ok (.invokevirtual 200, 3) := by decide +kernel
theorem dX11_align_4 : decode cX11_align 4 = .ok (.aload_n 0, 1) := by decide +kernel
theorem dX11_align_5 : decode cX11_align 5 = .ok (.invokevirtual 190, 3) := by decide +kernel
theorem dX11_align_8 : decode cX11_align 8 = .ok (.ifCond .eq 40, 3) := by decide +kernel
theorem dX11_align_11 : decode cX11_align 11 = .ok (.aload_n 0, 1) := by decide +kernel
theorem dX11_align_12 : decode cX11_align 12 = .ok (.getfield 147, 3) := by decide +kernel
theorem dX11_align_15 : decode cX11_align 15 = .ok (.iconst 2, 1) := by decide +kernel
theorem dX11_align_16 : decode cX11_align 16 = .ok (.if_icmp .ne 32, 3) := by decide +kernel
theorem dX11_align_19 : decode cX11_align 19 = .ok (.aload_n 0, 1) := by decide +kernel
theorem dX11_align_20 : decode cX11_align 20 = .ok (.getfield 140, 3) := by decide +kernel
theorem dX11_align_23 : decode cX11_align 23 = .ok (.ldc2_w 237, 3) := by decide +kernel
theorem dX11_align_26 : decode cX11_align 26 = .ok (.lcmp, 1) := by decide +kernel
theorem dX11_align_27 : decode cX11_align 27 = .ok (.ifCond .ge 21, 3) := by decide +kernel
theorem dX11_align_30 : decode cX11_align 30 = .ok (.aload_n 0, 1) := by decide +kernel
theorem dX11_align_31 : decode cX11_align 31 = .ok (.getfield 54, 3) := by decide +kernel
theorem dX11_align_34 : decode cX11_align 34 = .ok (.aload_n 0, 1) := by decide +kernel
theorem dX11_align_35 : decode cX11_align 35 = .ok (.getfield 140, 3) := by decide +kernel
theorem dX11_align_38 : decode cX11_align 38 = .ok (.l2i, 1) := by decide +kernel
theorem dX11_align_39 : decode cX11_align 39 = .ok (.baload, 1) := by decide +kernel
theorem dX11_align_40 : decode cX11_align 40 = .ok (.ifCond .eq 8, 3) := by decide +kernel
theorem dX11_align_43 : decode cX11_align 43 = .ok (.aload_n 0, 1) := by decide +kernel
theorem dX11_align_44 : decode cX11_align 44 = .ok (.iconst 5, 1) := by decide +kernel
theorem dX11_align_45 : decode cX11_align 45 = .ok (.invokevirtual 187, 3) := by decide +kernel
theorem dX11_align_48 : decode cX11_align 48 = .ok (.aload_n 0, 1) := by decide +kernel
theorem dX11_align_49 : decode cX11_align 49 = .ok (.lconst 0, 1) := by decide +kernel
theorem dX11_align_50 : decode cX11_align 50 = .ok (.ldc2_w 244, 3) := by decide +kernel
theorem dX11_align_53 : decode cX11_align 53 = .ok (.invokevirtual 227, 3) := by decide +kernel
theorem dX11_align_56 : decode cX11_align 56 = .ok (.l2i, 1) := by decide +kernel
theorem dX11_align_57 : decode cX11_align 57 = .ok (.istore_n 1, 1) := by decide +kernel
theorem dX11_align_58 : decode cX11_align 58 = .ok (.aload_n 0, 1) := by decide +kernel
theorem dX11_align_59 : decode cX11_align 59 = .ok (.lconst 0, 1) := by decide +kernel
theorem dX11_align_60 : decode cX11_align 60 = .ok (.ldc2_w 225, 3) := by decide +kernel
theorem dX11_align_63 : decode cX11_align 63 = .ok (.invokevirtual 227, 3) := by decide +kernel
theorem dX11_align_66 : decode cX11_align 66 = .ok (.lstore_n 2, 1) := by decide +kernel
theorem dX11_align_67 : decode cX11_align 67 = .ok (.aload_n 0, 1) := by decide +kernel
theorem dX11_align_68 : decode cX11_align 68 = .ok (.bipush 59, 2) := by decide +kernel
theorem dX11_align_70 : decode cX11_align 70 = .ok (.invokevirtual 213, 3) := by decide +kernel
theorem dX11_align_73 : decode cX11_align 73 = .ok (.aload_n 0, 1) := by decide +kernel
theorem dX11_align_74 : decode cX11_align 74 = .ok (.invokevirtual 190, 3) := by decide +kernel
theorem dX11_align_77 : decode cX11_align 77 = .ok (.ifCond .eq 17, 3) := by decide +kernel
theorem dX11_align_80 : decode cX11_align 80 = .ok (.aload_n 0, 1) := by decide +kernel
theorem dX11_align_81 : decode cX11_align 81 = .ok (.getfield 54, 3) := by decide +kernel
theorem dX11_align_84 : decode cX11_align 84 = .ok (.iload_n 1, 1) := by decide +kernel
theorem dX11_align_85 : decode cX11_align 85 = .ok (.iconst 1, 1) := by decide +kernel
theorem dX11_align_86 : decode cX11_align 86 = .ok (.bastore, 1) := by decide +kernel
theorem dX11_align_87 : decode cX11_align 87 = .ok (.aload_n 0, 1) := by decide +kernel
theorem dX11_align_88 : decode cX11_align 88 = .ok (.getfield 57, 3) := by decide +kernel
theorem dX11_align_91 : decode cX11_align 91 = .ok (.iload_n 1, 1) := by decide +kernel
theorem dX11_align_92 : decode cX11_align 92 = .ok (.lload_n 2, 1) := by decide +kernel
theorem dX11_align_93 : decode cX11_align 93 = .ok (.lastore, 1) := by decide +kernel
theorem dX11_align_94 : decode cX11_align 94 = .ok (.return_, 1) := by decide +kernel
theorem dX11_build_0 : decode cX11_build 0 = .ok (.aload_n 0, 1) := by decide +kernel
theorem dX11_build_1 : decode cX11_build 1 = .ok (.iconst 0, 1) := by decide +kernel
theorem dX11_build_2 : decode cX11_build 2 = .ok (.putfield 123, 3) := by decide +kernel
theorem dX11_build_5 : decode cX11_build 5 = .ok (.aload_n 0, 1) := by decide +kernel
theorem dX11_build_6 : decode cX11_build 6 = .ok (.iconst 0, 1) := by decide +kernel
theorem dX11_build_7 : decode cX11_build 7 = .ok (.putfield 130, 3) := by decide +kernel
theorem dX11_build_10 : decode cX11_build 10 = .ok (.aload_n 0, 1) := by decide +kernel
theorem dX11_build_11 : decode cX11_build 11 = .ok (.iconst 0, 1) := by decide +kernel
theorem dX11_build_12 : decode cX11_build 12 = .ok (.putfield 181, 3) := by decide +kernel
theorem dX11_build_15 : decode cX11_build 15 = .ok (.aload_n 0, 1) := by decide +kernel
theorem dX11_build_16 : decode cX11_build 16 = .ok (.getfield 60, 3) := by decide +kernel
theorem dX11_build_19 : decode cX11_build 19 = .ok (.iconst 0, 1) := by decide +kernel
theorem dX11_build_20 : decode cX11_build 20 = .ok (.iconst 0, 1) := by decide +kernel
theorem dX11_build_21 : decode cX11_build 21 = .ok (.iastore, 1) := by decide +kernel
theorem dX11_build_22 : decode cX11_build 22 = .ok (.aload_n 0, 1) := by decide +kernel
theorem dX11_build_23 : decode cX11_build 23 = .ok (.iconst 0, 1) := by decide +kernel
theorem dX11_build_24 : decode cX11_build 24 = .ok (.putfield 246, 3) := by decide +kernel
theorem dX11_build_27 : decode cX11_build 27 = .ok (.aload_n 0, 1) := by decide +kernel
theorem dX11_build_28 : decode cX11_build 28 = .ok (.iconst 0, 1) := by decide +kernel
theorem dX11_build_29 : decode cX11_build 29 = .ok (.putfield 257, 3) := by decide +kernel
theorem dX11_build_32 : decode cX11_build 32 = .ok (.iconst 0, 1) := by decide +kernel
theorem dX11_build_33 : decode cX11_build 33 = .ok (.istore_n 1, 1) := by decide +kernel
theorem dX11_build_34 : decode cX11_build 34 = .ok (.iload_n 1, 1) := by decide +kernel
theorem dX11_build_35 : decode cX11_build 35 = .ok (.iconst 4, 1) := by decide +kernel
theorem dX11_build_36 : decode cX11_build 36 = .ok (.if_icmp .ge 23, 3) := by decide +kernel
theorem dX11_build_39 : decode cX11_build 39 = .ok (.aload_n 0, 1) := by decide +kernel
theorem dX11_build_40 : decode cX11_build 40 = .ok (.getfield 54, 3) := by decide +kernel
theorem dX11_build_43 : decode cX11_build 43 = .ok (.iload_n 1, 1) := by decide +kernel
theorem dX11_build_44 : decode cX11_build 44 = .ok (.iconst 0, 1) := by decide +kernel
theorem dX11_build_45 : decode cX11_build 45 = .ok (.bastore, 1) := by decide +kernel
theorem dX11_build_46 : decode cX11_build 46 = .ok (.aload_n 0, 1) := by decide +kernel
theorem dX11_build_47 : decode cX11_build 47 = .ok (.getfield 57, 3) := by decide +kernel
theorem dX11_build_50 : decode cX11_build 50 = .ok (.iload_n 1, 1) := by decide +kernel
theorem dX11_build_51 : decode cX11_build 51 = .ok (.lconst 0, 1) := by decide +kernel
theorem dX11_build_52 : decode cX11_build 52 = .ok (.lastore, 1) := by decide +kernel
theorem dX11_build_53 : decode cX11_build 53 = .ok (.iinc 1 1, 3) := by decide +kernel
theorem dX11_build_56 : decode cX11_build 56 = .ok (.goto (-22), 3) := by decide +kernel
theorem dX11_build_59 : decode cX11_build 59 = .ok (.aload_n 0, 1) := by decide +kernel
theorem dX11_build_60 : decode cX11_build 60 = .ok (.invokevirtual 200, 3) := by decide +kernel
theorem dX11_build_63 : decode cX11_build 63 = .ok (.iconst 0, 1) := by decide +kernel
theorem dX11_build_64 : decode cX11_build 64 = .ok (.istore_n 1, 1) := by decide +kernel
theorem dX11_build_65 : decode cX11_build 65 = .ok (.aload_n 0, 1) := by decide +kernel
theorem dX11_build_66 : decode cX11_build 66 = .ok (.invokevirtual 190, 3) := by decide +kernel
theorem dX11_build_69 : decode cX11_build 69 = .ok (.ifCond .eq 76, 3) := by decide +kernel
theorem dX11_build_72 : decode cX11_build 72 = .ok (.iload_n 1, 1) := by decide +kernel
theorem dX11_build_73 : decode cX11_build 73 = .ok (.ifCond .eq 10, 3) := by decide +kernel
theorem dX11_build_76 : decode cX11_build 76 = .ok (.aload_n 0, 1) := by decide +kernel
theorem dX11_build_77 : decode cX11_build 77 = .ok (.getfield 147, 3) := by decide +kernel
theorem dX11_build_80 : decode cX11_build 80 = .ok (.ifCond .eq 65, 3) := by decide +kernel
theorem dX11_build_83 : decode cX11_build 83 = .ok (.aload_n 0, 1) := by decide +kernel
theorem dX11_build_84 : decode cX11_build 84 = .ok (.bipush 14, 2) := by decide +kernel
theorem dX11_build_86 : decode cX11_build 86 = .ok (.invokevirtual 194, 3) := by decide +kernel
theorem dX11_build_89 : decode cX11_build 89 = .ok (.ifCond .ne 21, 3) := by decide +kernel
theorem dX11_build_92 : decode cX11_build 92 = .ok (.aload_n 0, 1) := by decide +kernel
theorem dX11_build_93 : decode cX11_build 93 = .ok (.invokevirtual 206, 3) := by decide +kernel
theorem dX11_build_96 : decode cX11_build 96 = .ok (.ifCond .eq 18, 3) := by decide +kernel
theorem dX11_build_99 : decode cX11_build 99 = .ok (.aload_n 0, 1) := by decide +kernel
theorem dX11_build_100 : decode cX11_build 100 = .ok (.aload_n 0, 1) := by decide +kernel
theorem dX11_build_101 : decode cX11_build 101 = .ok (.getfield 140, 3) := by decide +kernel
theorem dX11_build_104 : decode cX11_build 104 = .ok (.invokevirtual 209, 3) := by decide +kernel
theorem dX11_build_107 : decode cX11_build 107 = .ok (.ifCond .ge 7, 3) := by decide +kernel
theorem dX11_build_110 : decode cX11_build 110 = .ok (.iconst 1, 1) := by decide +kernel
theorem dX11_build_111 : decode cX11_build 111 = .ok (.goto 4, 3) := by decide +kernel
theorem dX11_build_114 : decode cX11_build 114 = .ok (.iconst 0, 1) := by decide +kernel
theorem dX11_build_115 : decode cX11_build 115 = .ok (.istore_n 2, 1) := by decide +kernel
theorem dX11_build_116 : decode cX11_build 116 = .ok (.iload_n 1, 1) := by decide +kernel
theorem dX11_build_117 : decode cX11_build 117 = .ok (.bipush 20, 2) := by decide +kernel
theorem dX11_build_119 : decode cX11_build 119 = .ok (.if_icmp .ne 16, 3) := by decide +kernel
theorem dX11_build_122 : decode cX11_build 122 = .ok (.iload_n 2, 1) := by decide +kernel
theorem dX11_build_123 : decode cX11_build 123 = .ok (.ifCond .eq 12, 3) := by decide +kernel
theorem dX11_build_126 : decode cX11_build 126 = .ok (.aload_n 0, 1) := by decide +kernel
theorem dX11_build_127 : decode cX11_build 127 = .ok (.bipush 6, 2) := by decide +kernel
theorem dX11_build_129 : decode cX11_build 129 = .ok (.invokevirtual 187, 3) := by decide +kernel
theorem dX11_build_132 : decode cX11_build 132 = .ok (.goto 7, 3) := by decide +kernel
theorem dX11_build_135 : decode cX11_build 135 = .ok (.aload_n 0, 1) := by decide +kernel
theorem dX11_build_136 : decode cX11_build 136 = .ok (.invokevirtual 262, 3) := by decide +kernel
theorem dX11_build_139 : decode cX11_build 139 = .ok (.iinc 1 1, 3) := by decide +kernel
theorem dX11_build_142 : decode cX11_build 142 = .ok (.goto (-77), 3) := by decide +kernel
theorem dX11_build_145 : decode cX11_build 145 = .ok (.aload_n 0, 1) := by decide +kernel
theorem dX11_build_146 : decode cX11_build 146 = .ok (.iconst 0, 1) := by decide +kernel
theorem dX11_build_147 : decode cX11_build 147 = .ok (.putfield 127, 3) := by decide +kernel
theorem dX11_build_150 : decode cX11_build 150 = .ok (.aload_n 0, 1) := by decide +kernel
theorem dX11_build_151 : decode cX11_build 151 = .ok (.aload_n 0, 1) := by decide +kernel
theorem dX11_build_152 : decode cX11_build 152 = .ok (.getfield 181, 3) := by decide +kernel
theorem dX11_build_155 : decode cX11_build 155 = .ok (.putfield 265, 3) := by decide +kernel
theorem dX11_build_158 : decode cX11_build 158 = .ok (.aload_n 0, 1) := by decide +kernel
theorem dX11_build_159 : decode cX11_build 159 = .ok (.invokevirtual 190, 3) := by decide +kernel
theorem dX11_build_162 : decode cX11_build 162 = .ok (.ifCond .ne 11, 3) := by decide +kernel
theorem dX11_build_165 : decode cX11_build 165 = .ok (.bipush (-10), 2) := by decide +kernel
theorem dX11_build_167 : decode cX11_build 167 = .ok (.aload_n 0, 1) := by decide +kernel
theorem dX11_build_168 : decode cX11_build 168 = .ok (.getfield 184, 3) := by decide +kernel
theorem dX11_build_171 : decode cX11_build 171 = .ok (.isub, 1) := by decide +kernel
theorem dX11_build_172 : decode cX11_build 172 = .ok (.ireturn, 1) := by decide +kernel
theorem dX11_build_173 : decode cX11_build 173 = .ok (.aload_n 0, 1) := by decide +kernel
theorem dX11_build_174 : decode cX11_build 174 = .ok (.invokevirtual 268, 3) := by decide +kernel
theorem dX11_build_177 : decode cX11_build 177 = .ok (.aload_n 0, 1) := by decide +kernel
theorem dX11_build_178 : decode cX11_build 178 = .ok (.getfield 60, 3) := by decide +kernel
theorem dX11_build_181 : decode cX11_build 181 = .ok (.iconst 1, 1) := by decide +kernel
theorem dX11_build_182 : decode cX11_build 182 = .ok (.iaload, 1) := by decide +kernel
theorem dX11_build_183 : decode cX11_build 183 = .ok (.ireturn, 1) := by decide +kernel
theorem dX11_stand_0 : decode cX11_stand 0 = .ok (.aload_n 0, 1) := by decide +kernel
theorem dX11_stand_1 : decode cX11_stand 1 = .ok (.getfield 15, 3) := by decide +kernel
theorem dX11_stand_4 : decode cX11_stand 4 = .ok (.iconst 0, 1) := by decide +kernel
theorem dX11_stand_5 : decode cX11_stand 5 = .ok (.aload_n 0, 1) := by decide +kernel
theorem dX11_stand_6 : decode cX11_stand 6 = .ok (.getfield 15, 3) := by decide +kernel
theorem dX11_stand_9 : decode cX11_stand 9 = .ok (.bipush 12, 2) := by decide +kernel
theorem dX11_stand_11 : decode cX11_stand 11 = .ok (.bipush 12, 2) := by decide +kernel
theorem dX11_stand_13 : decode cX11_stand 13 = .ok (.invokestatic 271, 3) := by decide +kernel
theorem dX11_stand_16 : decode cX11_stand 16 = .ok (.aload_n 0, 1) := by decide +kernel
theorem dX11_stand_17 : decode cX11_stand 17 = .ok (.getfield 19, 3) := by decide +kernel
theorem dX11_stand_20 : decode cX11_stand 20 = .ok (.iconst 0, 1) := by decide +kernel
theorem dX11_stand_21 : decode cX11_stand 21 = .ok (.aload_n 0, 1) := by decide +kernel
theorem dX11_stand_22 : decode cX11_stand 22 = .ok (.getfield 19, 3) := by decide +kernel
theorem dX11_stand_25 : decode cX11_stand 25 = .ok (.bipush 12, 2) := by decide +kernel
theorem dX11_stand_27 : decode cX11_stand 27 = .ok (.bipush 12, 2) := by decide +kernel
theorem dX11_stand_29 : decode cX11_stand 29 = .ok (.invokestatic 271, 3) := by decide +kernel
theorem dX11_stand_32 : decode cX11_stand 32 = .ok (.aload_n 0, 1) := by decide +kernel
theorem dX11_stand_33 : decode cX11_stand 33 = .ok (.getfield 23, 3) := by decide +kernel
theorem dX11_stand_36 : decode cX11_stand 36 = .ok (.iconst 0, 1) := by decide +kernel
theorem dX11_stand_37 : decode cX11_stand 37 = .ok (.aload_n 0, 1) := by decide +kernel
theorem dX11_stand_38 : decode cX11_stand 38 = .ok (.getfield 23, 3) := by decide +kernel
theorem dX11_stand_41 : decode cX11_stand 41 = .ok (.bipush 12, 2) := by decide +kernel
theorem dX11_stand_43 : decode cX11_stand 43 = .ok (.bipush 12, 2) := by decide +kernel
theorem dX11_stand_45 : decode cX11_stand 45 = .ok (.invokestatic 271, 3) := by decide +kernel
theorem dX11_stand_48 : decode cX11_stand 48 = .ok (.aload_n 0, 1) := by decide +kernel
theorem dX11_stand_49 : decode cX11_stand 49 = .ok (.getfield 26, 3) := by decide +kernel
theorem dX11_stand_52 : decode cX11_stand 52 = .ok (.iconst 0, 1) := by decide +kernel
theorem dX11_stand_53 : decode cX11_stand 53 = .ok (.aload_n 0, 1) := by decide +kernel
theorem dX11_stand_54 : decode cX11_stand 54 = .ok (.getfield 26, 3) := by decide +kernel
theorem dX11_stand_57 : decode cX11_stand 57 = .ok (.bipush 12, 2) := by decide +kernel
theorem dX11_stand_59 : decode cX11_stand 59 = .ok (.bipush 12, 2) := by decide +kernel
theorem dX11_stand_61 : decode cX11_stand 61 = .ok (.invokestatic 271, 3) := by decide +kernel
theorem dX11_stand_64 : decode cX11_stand 64 = .ok (.aload_n 0, 1) := by decide +kernel
theorem dX11_stand_65 : decode cX11_stand 65 = .ok (.getfield 29, 3) := by decide +kernel
theorem dX11_stand_68 : decode cX11_stand 68 = .ok (.iconst 0, 1) := by decide +kernel
theorem dX11_stand_69 : decode cX11_stand 69 = .ok (.aload_n 0, 1) := by decide +kernel
theorem dX11_stand_70 : decode cX11_stand 70 = .ok (.getfield 29, 3) := by decide +kernel
theorem dX11_stand_73 : decode cX11_stand 73 = .ok (.bipush 12, 2) := by decide +kernel
theorem dX11_stand_75 : decode cX11_stand 75 = .ok (.bipush 12, 2) := by decide +kernel
theorem dX11_stand_77 : decode cX11_stand 77 = .ok (.invokestatic 271, 3) := by decide +kernel
theorem dX11_stand_80 : decode cX11_stand 80 = .ok (.aload_n 0, 1) := by decide +kernel
theorem dX11_stand_81 : decode cX11_stand 81 = .ok (.getfield 33, 3) := by decide +kernel
theorem dX11_stand_84 : decode cX11_stand 84 = .ok (.iconst 0, 1) := by decide +kernel
theorem dX11_stand_85 : decode cX11_stand 85 = .ok (.aload_n 0, 1) := by decide +kernel
theorem dX11_stand_86 : decode cX11_stand 86 = .ok (.getfield 33, 3) := by decide +kernel
theorem dX11_stand_89 : decode cX11_stand 89 = .ok (.bipush 12, 2) := by decide +kernel
theorem dX11_stand_91 : decode cX11_stand 91 = .ok (.bipush 12, 2) := by decide +kernel
theorem dX11_stand_93 : decode cX11_stand 93 = .ok (.invokestatic 271, 3) := by decide +kernel
theorem dX11_stand_96 : decode cX11_stand 96 = .ok (.aload_n 0, 1) := by decide +kernel
theorem dX11_stand_97 : decode cX11_stand 97 = .ok (.getfield 36, 3) := by decide +kernel
theorem dX11_stand_100 : decode cX11_stand 100 = .ok (.iconst 0, 1) := by decide +kernel
theorem dX11_stand_101 : decode cX11_stand 101 = .ok (.aload_n 0, 1) := by decide +kernel
theorem dX11_stand_102 : decode cX11_stand 102 = .ok (.getfield 36, 3) := by decide +kernel
theorem dX11_stand_105 : decode cX11_stand 105 = .ok (.bipush 12, 2) := by decide +kernel
theorem dX11_stand_107 : decode cX11_stand 107 = .ok (.bipush 12, 2) := by decide +kernel
theorem dX11_stand_109 : decode cX11_stand 109 = .ok (.invokestatic 271, 3) := by decide +kernel
theorem dX11_stand_112 : decode cX11_stand 112 = .ok (.aload_n 0, 1) := by decide +kernel
theorem dX11_stand_113 : decode cX11_stand 113 = .ok (.getfield 39, 3) := by decide +kernel
theorem dX11_stand_116 : decode cX11_stand 116 = .ok (.iconst 0, 1) := by decide +kernel
theorem dX11_stand_117 : decode cX11_stand 117 = .ok (.aload_n 0, 1) := by decide +kernel
theorem dX11_stand_118 : decode cX11_stand 118 = .ok (.getfield 39, 3) := by decide +kernel
theorem dX11_stand_121 : decode cX11_stand 121 = .ok (.bipush 12, 2) := by decide +kernel
theorem dX11_stand_123 : decode cX11_stand 123 = .ok (.bipush 12, 2) := by decide +kernel
theorem dX11_stand_125 : decode cX11_stand 125 = .ok (.invokestatic 271, 3) := by decide +kernel
theorem dX11_stand_128 : decode cX11_stand 128 = .ok (.aload_n 0, 1) := by decide +kernel
theorem dX11_stand_129 : decode cX11_stand 129 = .ok (.getfield 42, 3) := by decide +kernel
theorem dX11_stand_132 : decode cX11_stand 132 = .ok (.iconst 0, 1) := by decide +kernel
theorem dX11_stand_133 : decode cX11_stand 133 = .ok (.aload_n 0, 1) := by decide +kernel
theorem dX11_stand_134 : decode cX11_stand 134 = .ok (.getfield 42, 3) := by decide +kernel
theorem dX11_stand_137 : decode cX11_stand 137 = .ok (.bipush 12, 2) := by decide +kernel
theorem dX11_stand_139 : decode cX11_stand 139 = .ok (.bipush 12, 2) := by decide +kernel
theorem dX11_stand_141 : decode cX11_stand 141 = .ok (.invokestatic 271, 3) := by decide +kernel
theorem dX11_stand_144 : decode cX11_stand 144 = .ok (.aload_n 0, 1) := by decide +kernel
theorem dX11_stand_145 : decode cX11_stand 145 = .ok (.getfield 45, 3) := by decide +kernel
theorem dX11_stand_148 : decode cX11_stand 148 = .ok (.iconst 0, 1) := by decide +kernel
theorem dX11_stand_149 : decode cX11_stand 149 = .ok (.aload_n 0, 1) := by decide +kernel
theorem dX11_stand_150 : decode cX11_stand 150 = .ok (.getfield 45, 3) := by decide +kernel
theorem dX11_stand_153 : decode cX11_stand 153 = .ok (.bipush 12, 2) := by decide +kernel
theorem dX11_stand_155 : decode cX11_stand 155 = .ok (.bipush 12, 2) := by decide +kernel
theorem dX11_stand_157 : decode cX11_stand 157 = .ok (.invokestatic 271, 3) := by decide +kernel
theorem dX11_stand_160 : decode cX11_stand 160 = .ok (.aload_n 0, 1) := by decide +kernel
theorem dX11_stand_161 : decode cX11_stand 161 = .ok (.getfield 48, 3) := by decide +kernel
theorem dX11_stand_164 : decode cX11_stand 164 = .ok (.iconst 0, 1) := by decide +kernel
theorem dX11_stand_165 : decode cX11_stand 165 = .ok (.aload_n 0, 1) := by decide +kernel
theorem dX11_stand_166 : decode cX11_stand 166 = .ok (.getfield 48, 3) := by decide +kernel
theorem dX11_stand_169 : decode cX11_stand 169 = .ok (.bipush 48, 2) := by decide +kernel
theorem dX11_stand_171 : decode cX11_stand 171 = .ok (.bipush 48, 2) := by decide +kernel
theorem dX11_stand_173 : decode cX11_stand 173 = .ok (.invokestatic 271, 3) := by decide +kernel
theorem dX11_stand_176 : decode cX11_stand 176 = .ok (.aload_n 0, 1) := by decide +kernel
theorem dX11_stand_177 : decode cX11_stand 177 = .ok (.getfield 51, 3) := by decide +kernel
theorem dX11_stand_180 : decode cX11_stand 180 = .ok (.iconst 0, 1) := by decide +kernel
theorem dX11_stand_181 : decode cX11_stand 181 = .ok (.aload_n 0, 1) := by decide +kernel
theorem dX11_stand_182 : decode cX11_stand 182 = .ok (.getfield 51, 3) := by decide +kernel
theorem dX11_stand_185 : decode cX11_stand 185 = .ok (.bipush 12, 2) := by decide +kernel
theorem dX11_stand_187 : decode cX11_stand 187 = .ok (.bipush 12, 2) := by decide +kernel
theorem dX11_stand_189 : decode cX11_stand 189 = .ok (.invokestatic 271, 3) := by decide +kernel
theorem dX11_stand_192 : decode cX11_stand 192 = .ok (.aload_n 0, 1) := by decide +kernel
theorem dX11_stand_193 : decode cX11_stand 193 = .ok (.getfield 54, 3) := by decide +kernel
theorem dX11_stand_196 : decode cX11_stand 196 = .ok (.iconst 0, 1) := by decide +kernel
theorem dX11_stand_197 : decode cX11_stand 197 = .ok (.aload_n 0, 1) := by decide +kernel
theorem dX11_stand_198 : decode cX11_stand 198 = .ok (.getfield 54, 3) := by decide +kernel
theorem dX11_stand_201 : decode cX11_stand 201 = .ok (.iconst 4, 1) := by decide +kernel
theorem dX11_stand_202 : decode cX11_stand 202 = .ok (.iconst 4, 1) := by decide +kernel
theorem dX11_stand_203 : decode cX11_stand 203 = .ok (.invokestatic 271, 3) := by decide +kernel
theorem dX11_stand_206 : decode cX11_stand 206 = .ok (.aload_n 0, 1) := by decide +kernel
theorem dX11_stand_207 : decode cX11_stand 207 = .ok (.getfield 57, 3) := by decide +kernel
theorem dX11_stand_210 : decode cX11_stand 210 = .ok (.iconst 0, 1) := by decide +kernel
theorem dX11_stand_211 : decode cX11_stand 211 = .ok (.aload_n 0, 1) := by decide +kernel
theorem dX11_stand_212 : decode cX11_stand 212 = .ok (.getfield 57, 3) := by decide +kernel
theorem dX11_stand_215 : decode cX11_stand 215 = .ok (.iconst 4, 1) := by decide +kernel
theorem dX11_stand_216 : decode cX11_stand 216 = .ok (.iconst 4, 1) := by decide +kernel
theorem dX11_stand_217 : decode cX11_stand 217 = .ok (.invokestatic 271, 3) := by decide +kernel
theorem dX11_stand_220 : decode cX11_stand 220 = .ok (.aload_n 0, 1) := by decide +kernel
theorem dX11_stand_221 : decode cX11_stand 221 = .ok (.getfield 60, 3) := by decide +kernel
theorem dX11_stand_224 : decode cX11_stand 224 = .ok (.iconst 1, 1) := by decide +kernel
theorem dX11_stand_225 : decode cX11_stand 225 = .ok (.aload_n 0, 1) := by decide +kernel
theorem dX11_stand_226 : decode cX11_stand 226 = .ok (.getfield 60, 3) := by decide +kernel
theorem dX11_stand_229 : decode cX11_stand 229 = .ok (.iconst 0, 1) := by decide +kernel
theorem dX11_stand_230 : decode cX11_stand 230 = .ok (.iaload, 1) := by decide +kernel
theorem dX11_stand_231 : decode cX11_stand 231 = .ok (.iastore, 1) := by decide +kernel
theorem dX11_stand_232 : decode cX11_stand 232 = .ok (.aload_n 0, 1) := by decide +kernel
theorem dX11_stand_233 : decode cX11_stand 233 = .ok (.iconst 1, 1) := by decide +kernel
theorem dX11_stand_234 : decode cX11_stand 234 = .ok (.putfield 277, 3) := by decide +kernel
theorem dX11_stand_237 : decode cX11_stand 237 = .ok (.iconst 0, 1) := by decide +kernel
theorem dX11_stand_238 : decode cX11_stand 238 = .ok (.istore_n 1, 1) := by decide +kernel
theorem dX11_stand_239 : decode cX11_stand 239 = .ok (.iload_n 1, 1) := by decide +kernel
theorem dX11_stand_240 : decode cX11_stand 240 = .ok (.bipush 12, 2) := by decide +kernel
theorem dX11_stand_242 : decode cX11_stand 242 = .ok (.if_icmp .ge 100, 3) := by decide +kernel
theorem dX11_stand_245 : decode cX11_stand 245 = .ok (.aload_n 0, 1) := by decide +kernel
theorem dX11_stand_246 : decode cX11_stand 246 = .ok (.getfield 63, 3) := by decide +kernel
theorem dX11_stand_249 : decode cX11_stand 249 = .ok (.iload_n 1, 1) := by decide +kernel
theorem dX11_stand_250 : decode cX11_stand 250 = .ok (.ldc2_w 281, 3) := by decide +kernel
theorem dX11_stand_253 : decode cX11_stand 253 = .ok (.lastore, 1) := by decide +kernel
theorem dX11_stand_254 : decode cX11_stand 254 = .ok (.aload_n 0, 1) := by decide +kernel
theorem dX11_stand_255 : decode cX11_stand 255 = .ok (.getfield 66, 3) := by decide +kernel
theorem dX11_stand_258 : decode cX11_stand 258 = .ok (.iload_n 1, 1) := by decide +kernel
theorem dX11_stand_259 : decode cX11_stand 259 = .ok (.iconst 0, 1) := by decide +kernel
theorem dX11_stand_260 : decode cX11_stand 260 = .ok (.bastore, 1) := by decide +kernel
theorem dX11_stand_261 : decode cX11_stand 261 = .ok (.aload_n 0, 1) := by decide +kernel
theorem dX11_stand_262 : decode cX11_stand 262 = .ok (.getfield 84, 3) := by decide +kernel
theorem dX11_stand_265 : decode cX11_stand 265 = .ok (.iload_n 1, 1) := by decide +kernel
theorem dX11_stand_266 : decode cX11_stand 266 = .ok (.iconst 0, 1) := by decide +kernel
theorem dX11_stand_267 : decode cX11_stand 267 = .ok (.iastore, 1) := by decide +kernel
theorem dX11_stand_268 : decode cX11_stand 268 = .ok (.aload_n 0, 1) := by decide +kernel
theorem dX11_stand_269 : decode cX11_stand 269 = .ok (.getfield 96, 3) := by decide +kernel
theorem dX11_stand_272 : decode cX11_stand 272 = .ok (.iconst 2, 1) := by decide +kernel
theorem dX11_stand_273 : decode cX11_stand 273 = .ok (.iload_n 1, 1) := by decide +kernel
theorem dX11_stand_274 : decode cX11_stand 274 = .ok (.imul, 1) := by decide +kernel
theorem dX11_stand_275 : decode cX11_stand 275 = .ok (.iconst 0, 1) := by decide +kernel
theorem dX11_stand_276 : decode cX11_stand 276 = .ok (.iastore, 1) := by decide +kernel
theorem dX11_stand_277 : decode cX11_stand 277 = .ok (.aload_n 0, 1) := by decide +kernel
theorem dX11_stand_278 : decode cX11_stand 278 = .ok (.getfield 96, 3) := by decide +kernel
theorem dX11_stand_281 : decode cX11_stand 281 = .ok (.iconst 2, 1) := by decide +kernel
theorem dX11_stand_282 : decode cX11_stand 282 = .ok (.iload_n 1, 1) := by decide +kernel
theorem dX11_stand_283 : decode cX11_stand 283 = .ok (.imul, 1) := by decide +kernel
theorem dX11_stand_284 : decode cX11_stand 284 = .ok (.iconst 1, 1) := by decide +kernel
theorem dX11_stand_285 : decode cX11_stand 285 = .ok (.iadd, 1) := by decide +kernel
theorem dX11_stand_286 : decode cX11_stand 286 = .ok (.iconst 0, 1) := by decide +kernel
theorem dX11_stand_287 : decode cX11_stand 287 = .ok (.iastore, 1) := by decide +kernel
theorem dX11_stand_288 : decode cX11_stand 288 = .ok (.iconst 0, 1) := by decide +kernel
theorem dX11_stand_289 : decode cX11_stand 289 = .ok (.istore_n 2, 1) := by decide +kernel
theorem dX11_stand_290 : decode cX11_stand 290 = .ok (.iload_n 2, 1) := by decide +kernel
theorem dX11_stand_291 : decode cX11_stand 291 = .ok (.iconst 4, 1) := by decide +kernel
theorem dX11_stand_292 : decode cX11_stand 292 = .ok (.if_icmp .ge 44, 3) := by decide +kernel
theorem dX11_stand_295 : decode cX11_stand 295 = .ok (.aload_n 0, 1) := by decide +kernel
theorem dX11_stand_296 : decode cX11_stand 296 = .ok (.getfield 69, 3) := by decide +kernel
theorem dX11_stand_299 : decode cX11_stand 299 = .ok (.iconst 4, 1) := by decide +kernel
theorem dX11_stand_300 : decode cX11_stand 300 = .ok (.iload_n 1, 1) := by decide +kernel
theorem dX11_stand_301 : decode cX11_stand 301 = .ok (.imul, 1) := by decide +kernel
theorem dX11_stand_302 : decode cX11_stand 302 = .ok (.iload_n 2, 1) := by decide +kernel
theorem dX11_stand_303 : decode cX11_stand 303 = .ok (.iadd, 1) := by decide +kernel
theorem dX11_stand_304 : decode cX11_stand 304 = .ok (.iconst 0, 1) := by decide +kernel
theorem dX11_stand_305 : decode cX11_stand 305 = .ok (.iastore, 1) := by decide +kernel
theorem dX11_stand_306 : decode cX11_stand 306 = .ok (.aload_n 0, 1) := by decide +kernel
theorem dX11_stand_307 : decode cX11_stand 307 = .ok (.getfield 72, 3) := by decide +kernel
theorem dX11_stand_310 : decode cX11_stand 310 = .ok (.iconst 4, 1) := by decide +kernel
theorem dX11_stand_311 : decode cX11_stand 311 = .ok (.iload_n 1, 1) := by decide +kernel
theorem dX11_stand_312 : decode cX11_stand 312 = .ok (.imul, 1) := by decide +kernel
theorem dX11_stand_313 : decode cX11_stand 313 = .ok (.iload_n 2, 1) := by decide +kernel
theorem dX11_stand_314 : decode cX11_stand 314 = .ok (.iadd, 1) := by decide +kernel
theorem dX11_stand_315 : decode cX11_stand 315 = .ok (.ldc2_w 281, 3) := by decide +kernel
theorem dX11_stand_318 : decode cX11_stand 318 = .ok (.lastore, 1) := by decide +kernel
theorem dX11_stand_319 : decode cX11_stand 319 = .ok (.aload_n 0, 1) := by decide +kernel
theorem dX11_stand_320 : decode cX11_stand 320 = .ok (.getfield 75, 3) := by decide +kernel
theorem dX11_stand_323 : decode cX11_stand 323 = .ok (.iconst 4, 1) := by decide +kernel
theorem dX11_stand_324 : decode cX11_stand 324 = .ok (.iload_n 1, 1) := by decide +kernel
theorem dX11_stand_325 : decode cX11_stand 325 = .ok (.imul, 1) := by decide +kernel
theorem dX11_stand_326 : decode cX11_stand 326 = .ok (.iload_n 2, 1) := by decide +kernel
theorem dX11_stand_327 : decode cX11_stand 327 = .ok (.iadd, 1) := by decide +kernel
theorem dX11_stand_328 : decode cX11_stand 328 = .ok (.iconst 0, 1) := by decide +kernel
theorem dX11_stand_329 : decode cX11_stand 329 = .ok (.iastore, 1) := by decide +kernel
theorem dX11_stand_330 : decode cX11_stand 330 = .ok (.iinc 2 1, 3) := by decide +kernel
theorem dX11_stand_333 : decode cX11_stand 333 = .ok (.goto (-43), 3) := by decide +kernel
theorem dX11_stand_336 : decode cX11_stand 336 = .ok (.iinc 1 1, 3) := by decide +kernel
theorem dX11_stand_339 : decode cX11_stand 339 = .ok (.goto (-100), 3) := by decide +kernel
theorem dX11_stand_342 : decode cX11_stand 342 = .ok (.aload_n 0, 1) := by decide +kernel
theorem dX11_stand_343 : decode cX11_stand 343 = .ok (.iconst 0, 1) := by decide +kernel
theorem dX11_stand_344 : decode cX11_stand 344 = .ok (.putfield 283, 3) := by decide +kernel
theorem dX11_stand_347 : decode cX11_stand 347 = .ok (.aload_n 0, 1) := by decide +kernel
theorem dX11_stand_348 : decode cX11_stand 348 = .ok (.iconst 0, 1) := by decide +kernel
theorem dX11_stand_349 : decode cX11_stand 349 = .ok (.putfield 286, 3) := by decide +kernel
theorem dX11_stand_352 : decode cX11_stand 352 = .ok (.aload_n 0, 1) := by decide +kernel
theorem dX11_stand_353 : decode cX11_stand 353 = .ok (.iconst 0, 1) := by decide +kernel
theorem dX11_stand_354 : decode cX11_stand 354 = .ok (.putfield 289, 3) := by decide +kernel
theorem dX11_stand_357 : decode cX11_stand 357 = .ok (.aload_n 0, 1) := by decide +kernel
theorem dX11_stand_358 : decode cX11_stand 358 = .ok (.iconst 0, 1) := by decide +kernel
theorem dX11_stand_359 : decode cX11_stand 359 = .ok (.putfield 292, 3) := by decide +kernel
theorem dX11_stand_362 : decode cX11_stand 362 = .ok (.aload_n 0, 1) := by decide +kernel
theorem dX11_stand_363 : decode cX11_stand 363 = .ok (.iconst 0, 1) := by decide +kernel
theorem dX11_stand_364 : decode cX11_stand 364 = .ok (.putfield 295, 3) := by decide +kernel
theorem dX11_stand_367 : decode cX11_stand 367 = .ok (.return_, 1) := by decide +kernel
theorem dX11_fault__0 : decode cX11_fault_ 0 = .ok (.aload_n 0, 1) := by decide +kernel
theorem dX11_fault__1 : decode cX11_fault_ 1 = .ok (.iconst 0, 1) := by decide +kernel
theorem dX11_fault__2 : decode cX11_fault_ 2 = .ok (.putfield 123, 3) := by decide +kernel
theorem dX11_fault__5 : decode cX11_fault_ 5 = .ok (.aload_n 0, 1) := by decide +kernel
theorem dX11_fault__6 : decode cX11_fault_ 6 = .ok (.getfield 265, 3) := by decide +kernel
theorem dX11_fault__9 : decode cX11_fault_ 9 = .ok (.ireturn, 1) := by decide +kernel
theorem dX11_plus_0 : decode cX11_plus 0 = .ok (.lload_n 0, 1) := by decide +kernel
theorem dX11_plus_1 : decode cX11_plus 1 = .ok (.ldc2_w 281, 3) := by decide +kernel
theorem dX11_plus_4 : decode cX11_plus 4 = .ok (.lcmp, 1) := by decide +kernel
theorem dX11_plus_5 : decode cX11_plus 5 = .ok (.ifCond .eq 11, 3) := by decide +kernel
theorem dX11_plus_8 : decode cX11_plus 8 = .ok (.lload_n 0, 1) := by decide +kernel
theorem dX11_plus_9 : decode cX11_plus 9 = .ok (.ldc2_w 298, 3) := by decide +kernel
theorem dX11_plus_12 : decode cX11_plus 12 = .ok (.lcmp, 1) := by decide +kernel
theorem dX11_plus_13 : decode cX11_plus 13 = .ok (.ifCond .ne 5, 3) := by decide +kernel
theorem dX11_plus_16 : decode cX11_plus 16 = .ok (.lload_n 0, 1) := by decide +kernel
theorem dX11_plus_17 : decode cX11_plus 17 = .ok (.lreturn, 1) := by decide +kernel
theorem dX11_plus_18 : decode cX11_plus 18 = .ok (.lload_n 0, 1) := by decide +kernel
theorem dX11_plus_19 : decode cX11_plus 19 = .ok (.lload_n 2, 1) := by decide +kernel
theorem dX11_plus_20 : decode cX11_plus 20 = .ok (.ladd, 1) := by decide +kernel
theorem dX11_plus_21 : decode cX11_plus 21 = .ok (.lstore 4, 2) := by decide +kernel
theorem dX11_plus_23 : decode cX11_plus 23 = .ok (.lload 4, 2) := by decide +kernel
theorem dX11_plus_25 : decode cX11_plus 25 = .ok (.ldc2_w 300, 3) := by decide +kernel
theorem dX11_plus_28 : decode cX11_plus 28 = .ok (.lcmp, 1) := by decide +kernel
theorem dX11_plus_29 : decode cX11_plus 29 = .ok (.ifCond .le 9, 3) := by decide +kernel
theorem dX11_plus_32 : decode cX11_plus 32 = .ok (.ldc2_w 300, 3) := by decide +kernel
theorem dX11_plus_35 : decode cX11_plus 35 = .ok (.goto 20, 3) := by decide +kernel
theorem dX11_plus_38 : decode cX11_plus 38 = .ok (.lload 4, 2) := by decide +kernel
theorem dX11_plus_40 : decode cX11_plus 40 = .ok (.ldc2_w 302, 3) := by decide +kernel
theorem dX11_plus_43 : decode cX11_plus 43 = .ok (.lcmp, 1) := by decide +kernel
theorem dX11_plus_44 : decode cX11_plus 44 = .ok (.ifCond .ge 9, 3) := by decide +kernel
theorem dX11_plus_47 : decode cX11_plus 47 = .ok (.ldc2_w 302, 3) := by decide +kernel
theorem dX11_plus_50 : decode cX11_plus 50 = .ok (.goto 5, 3) := by decide +kernel
theorem dX11_plus_53 : decode cX11_plus 53 = .ok (.lload 4, 2) := by decide +kernel
theorem dX11_plus_55 : decode cX11_plus 55 = .ok (.lreturn, 1) := by decide +kernel
theorem dX11_kindOf_0 : decode cX11_kindOf 0 = .ok (.aload_n 0, 1) := by decide +kernel
theorem dX11_kindOf_1 : decode cX11_kindOf 1 = .ok (.getfield 15, 3) := by decide +kernel
theorem dX11_kindOf_4 : decode cX11_kindOf 4 = .ok (.bipush 12, 2) := by decide +kernel
theorem dX11_kindOf_6 : decode cX11_kindOf 6 = .ok (.iload_n 1, 1) := by decide +kernel
theorem dX11_kindOf_7 : decode cX11_kindOf 7 = .ok (.iadd, 1) := by decide +kernel
theorem dX11_kindOf_8 : decode cX11_kindOf 8 = .ok (.iaload, 1) := by decide +kernel
theorem dX11_kindOf_9 : decode cX11_kindOf 9 = .ok (.ireturn, 1) := by decide +kernel
theorem dX11_inputOf_0 : decode cX11_inputOf 0 = .ok (.aload_n 0, 1) := by decide +kernel
theorem dX11_inputOf_1 : decode cX11_inputOf 1 = .ok (.getfield 48, 3) := by decide +kernel
theorem dX11_inputOf_4 : decode cX11_inputOf 4 = .ok (.iconst 4, 1) := by decide +kernel
theorem dX11_inputOf_5 : decode cX11_inputOf 5 = .ok (.bipush 12, 2) := by decide +kernel
theorem dX11_inputOf_7 : decode cX11_inputOf 7 = .ok (.iload_n 1, 1) := by decide +kernel
theorem dX11_inputOf_8 : decode cX11_inputOf 8 = .ok (.iadd, 1) := by decide +kernel
theorem dX11_inputOf_9 : decode cX11_inputOf 9 = .ok (.imul, 1) := by decide +kernel
theorem dX11_inputOf_10 : decode cX11_inputOf 10 = .ok (.iload_n 2, 1) := by decide +kernel
theorem dX11_inputOf_11 : decode cX11_inputOf 11 = .ok (.iadd, 1) := by decide +kernel
theorem dX11_inputOf_12 : decode cX11_inputOf 12 = .ok (.iaload, 1) := by decide +kernel
theorem dX11_inputOf_13 : decode cX11_inputOf 13 = .ok (.ireturn, 1) := by decide +kernel
theorem dX11_note_0 : decode cX11_note 0 = .ok (.iload_n 2, 1) := by decide +kernel
theorem dX11_note_1 : decode cX11_note 1 = .ok (.iload_n 3, 1) := by decide +kernel
theorem dX11_note_2 : decode cX11_note 2 = .ok (.if_icmp .ge 40, 3) := by decide +kernel
theorem dX11_note_5 : decode cX11_note 5 = .ok (.aload_n 1, 1) := by decide +kernel
theorem dX11_note_6 : decode cX11_note 6 = .ok (.iconst 4, 1) := by decide +kernel
theorem dX11_note_7 : decode cX11_note 7 = .ok (.iload_n 2, 1) := by decide +kernel
theorem dX11_note_8 : decode cX11_note 8 = .ok (.imul, 1) := by decide +kernel
theorem dX11_note_9 : decode cX11_note 9 = .ok (.iload 4, 2) := by decide +kernel
theorem dX11_note_11 : decode cX11_note 11 = .ok (.i2l, 1) := by decide +kernel
theorem dX11_note_12 : decode cX11_note 12 = .ok (.lastore, 1) := by decide +kernel
theorem dX11_note_13 : decode cX11_note 13 = .ok (.aload_n 1, 1) := by decide +kernel
theorem dX11_note_14 : decode cX11_note 14 = .ok (.iconst 4, 1) := by decide +kernel
theorem dX11_note_15 : decode cX11_note 15 = .ok (.iload_n 2, 1) := by decide +kernel
theorem dX11_note_16 : decode cX11_note 16 = .ok (.imul, 1) := by decide +kernel
theorem dX11_note_17 : decode cX11_note 17 = .ok (.iconst 1, 1) := by decide +kernel
theorem dX11_note_18 : decode cX11_note 18 = .ok (.iadd, 1) := by decide +kernel
theorem dX11_note_19 : decode cX11_note 19 = .ok (.lload 5, 2) := by decide +kernel
theorem dX11_note_21 : decode cX11_note 21 = .ok (.lastore, 1) := by decide +kernel
theorem dX11_note_22 : decode cX11_note 22 = .ok (.aload_n 1, 1) := by decide +kernel
theorem dX11_note_23 : decode cX11_note 23 = .ok (.iconst 4, 1) := by decide +kernel
theorem dX11_note_24 : decode cX11_note 24 = .ok (.iload_n 2, 1) := by decide +kernel
theorem dX11_note_25 : decode cX11_note 25 = .ok (.imul, 1) := by decide +kernel
theorem dX11_note_26 : decode cX11_note 26 = .ok (.iconst 2, 1) := by decide +kernel
theorem dX11_note_27 : decode cX11_note 27 = .ok (.iadd, 1) := by decide +kernel
theorem dX11_note_28 : decode cX11_note 28 = .ok (.iload 7, 2) := by decide +kernel
theorem dX11_note_30 : decode cX11_note 30 = .ok (.i2l, 1) := by decide +kernel
theorem dX11_note_31 : decode cX11_note 31 = .ok (.lastore, 1) := by decide +kernel
theorem dX11_note_32 : decode cX11_note 32 = .ok (.aload_n 1, 1) := by decide +kernel
theorem dX11_note_33 : decode cX11_note 33 = .ok (.iconst 4, 1) := by decide +kernel
theorem dX11_note_34 : decode cX11_note 34 = .ok (.iload_n 2, 1) := by decide +kernel
theorem dX11_note_35 : decode cX11_note 35 = .ok (.imul, 1) := by decide +kernel
theorem dX11_note_36 : decode cX11_note 36 = .ok (.iconst 3, 1) := by decide +kernel
theorem dX11_note_37 : decode cX11_note 37 = .ok (.iadd, 1) := by decide +kernel
theorem dX11_note_38 : decode cX11_note 38 = .ok (.iload 8, 2) := by decide +kernel
theorem dX11_note_40 : decode cX11_note 40 = .ok (.i2l, 1) := by decide +kernel
theorem dX11_note_41 : decode cX11_note 41 = .ok (.lastore, 1) := by decide +kernel
theorem dX11_note_42 : decode cX11_note 42 = .ok (.return_, 1) := by decide +kernel
theorem dX11_late_0 : decode cX11_late 0 = .ok (.aload_n 0, 1) := by decide +kernel
theorem dX11_late_1 : decode cX11_late 1 = .ok (.aload_n 0, 1) := by decide +kernel
theorem dX11_late_2 : decode cX11_late 2 = .ok (.getfield 81, 3) := by decide +kernel
theorem dX11_late_5 : decode cX11_late 5 = .ok (.aload_n 0, 1) := by decide +kernel
theorem dX11_late_6 : decode cX11_late 6 = .ok (.getfield 286, 3) := by decide +kernel
theorem dX11_late_9 : decode cX11_late 9 = .ok (.sipush 200, 3) := by decide +kernel
theorem dX11_late_12 : decode cX11_late 12 = .ok (.iload_n 1, 1) := by decide +kernel
theorem dX11_late_13 : decode cX11_late 13 = .ok (.lload_n 2, 1) := by decide +kernel
theorem dX11_late_14 : decode cX11_late 14 = .ok (.iload 4, 2) := by decide +kernel
theorem dX11_late_16 : decode cX11_late 16 = .ok (.iload 5, 2) := by decide +kernel
theorem dX11_late_18 : decode cX11_late 18 = .ok (.invokevirtual 304, 3) := by decide +kernel
theorem dX11_late_21 : decode cX11_late 21 = .ok (.aload_n 0, 1) := by decide +kernel
theorem dX11_late_22 : decode cX11_late 22 = .ok (.dup, 1) := by decide +kernel
theorem dX11_late_23 : decode cX11_late 23 = .ok (.getfield 286, 3) := by decide +kernel
theorem dX11_late_26 : decode cX11_late 26 = .ok (.iconst 1, 1) := by decide +kernel
theorem dX11_late_27 : decode cX11_late 27 = .ok (.iadd, 1) := by decide +kernel
theorem dX11_late_28 : decode cX11_late 28 = .ok (.putfield 286, 3) := by decide +kernel
theorem dX11_late_31 : decode cX11_late 31 = .ok (.return_, 1) := by decide +kernel
theorem dX11_pass_0 : decode cX11_pass 0 = .ok (.aload_n 0, 1) := by decide +kernel
theorem dX11_pass_1 : decode cX11_pass 1 = .ok (.getfield 51, 3) := by decide +kernel
theorem dX11_pass_4 : decode cX11_pass 4 = .ok (.bipush 12, 2) := by decide +kernel
theorem dX11_pass_6 : decode cX11_pass 6 = .ok (.iload_n 1, 1) := by decide +kernel
theorem dX11_pass_7 : decode cX11_pass 7 = .ok (.iadd, 1) := by decide +kernel
theorem dX11_pass_8 : decode cX11_pass 8 = .ok (.iaload, 1) := by decide +kernel
theorem dX11_pass_9 : decode cX11_pass 9 = .ok (.istore 6, 2) := by decide +kernel
theorem dX11_pass_11 : decode cX11_pass 11 = .ok (.iload 6, 2) := by decide +kernel
theorem dX11_pass_13 : decode cX11_pass 13 = .ok (.ifCond .lt 30, 3) := by decide +kernel
theorem dX11_pass_16 : decode cX11_pass 16 = .ok (.aload_n 0, 1) := by decide +kernel
theorem dX11_pass_17 : decode cX11_pass 17 = .ok (.iload 6, 2) := by decide +kernel
theorem dX11_pass_19 : decode cX11_pass 19 = .ok (.invokevirtual 308, 3) := by decide +kernel
theorem dX11_pass_22 : decode cX11_pass 22 = .ok (.iconst 2, 1) := by decide +kernel
theorem dX11_pass_23 : decode cX11_pass 23 = .ok (.if_icmp .ne 20, 3) := by decide +kernel
theorem dX11_pass_26 : decode cX11_pass 26 = .ok (.lload_n 2, 1) := by decide +kernel
theorem dX11_pass_27 : decode cX11_pass 27 = .ok (.aload_n 0, 1) := by decide +kernel
theorem dX11_pass_28 : decode cX11_pass 28 = .ok (.getfield 33, 3) := by decide +kernel
theorem dX11_pass_31 : decode cX11_pass 31 = .ok (.bipush 12, 2) := by decide +kernel
theorem dX11_pass_33 : decode cX11_pass 33 = .ok (.iload 6, 2) := by decide +kernel
theorem dX11_pass_35 : decode cX11_pass 35 = .ok (.iadd, 1) := by decide +kernel
theorem dX11_pass_36 : decode cX11_pass 36 = .ok (.laload, 1) := by decide +kernel
theorem dX11_pass_37 : decode cX11_pass 37 = .ok (.invokestatic 311, 3) := by decide +kernel
theorem dX11_pass_40 : decode cX11_pass 40 = .ok (.goto 4, 3) := by decide +kernel
theorem dX11_pass_43 : decode cX11_pass 43 = .ok (.lload_n 2, 1) := by decide +kernel
theorem dX11_pass_44 : decode cX11_pass 44 = .ok (.lstore 7, 2) := by decide +kernel
theorem dX11_pass_46 : decode cX11_pass 46 = .ok (.iload 6, 2) := by decide +kernel
theorem dX11_pass_48 : decode cX11_pass 48 = .ok (.ifCond .ge 36, 3) := by decide +kernel
theorem dX11_pass_51 : decode cX11_pass 51 = .ok (.aload_n 0, 1) := by decide +kernel
theorem dX11_pass_52 : decode cX11_pass 52 = .ok (.aload_n 0, 1) := by decide +kernel
theorem dX11_pass_53 : decode cX11_pass 53 = .ok (.getfield 78, 3) := by decide +kernel
theorem dX11_pass_56 : decode cX11_pass 56 = .ok (.aload_n 0, 1) := by decide +kernel
theorem dX11_pass_57 : decode cX11_pass 57 = .ok (.getfield 283, 3) := by decide +kernel
theorem dX11_pass_60 : decode cX11_pass 60 = .ok (.sipush 300, 3) := by decide +kernel
theorem dX11_pass_63 : decode cX11_pass 63 = .ok (.iload_n 1, 1) := by decide +kernel
theorem dX11_pass_64 : decode cX11_pass 64 = .ok (.lload 7, 2) := by decide +kernel
theorem dX11_pass_66 : decode cX11_pass 66 = .ok (.iload 4, 2) := by decide +kernel
theorem dX11_pass_68 : decode cX11_pass 68 = .ok (.iload 5, 2) := by decide +kernel
theorem dX11_pass_70 : decode cX11_pass 70 = .ok (.invokevirtual 304, 3) := by decide +kernel
theorem dX11_pass_73 : decode cX11_pass 73 = .ok (.aload_n 0, 1) := by decide +kernel
theorem dX11_pass_74 : decode cX11_pass 74 = .ok (.dup, 1) := by decide +kernel
theorem dX11_pass_75 : decode cX11_pass 75 = .ok (.getfield 283, 3) := by decide +kernel
theorem dX11_pass_78 : decode cX11_pass 78 = .ok (.iconst 1, 1) := by decide +kernel
theorem dX11_pass_79 : decode cX11_pass 79 = .ok (.iadd, 1) := by decide +kernel
theorem dX11_pass_80 : decode cX11_pass 80 = .ok (.putfield 283, 3) := by decide +kernel
theorem dX11_pass_83 : decode cX11_pass 83 = .ok (.return_, 1) := by decide +kernel
theorem dX11_pass_84 : decode cX11_pass 84 = .ok (.lload 7, 2) := by decide +kernel
theorem dX11_pass_86 : decode cX11_pass 86 = .ok (.aload_n 0, 1) := by decide +kernel
theorem dX11_pass_87 : decode cX11_pass 87 = .ok (.getfield 63, 3) := by decide +kernel
theorem dX11_pass_90 : decode cX11_pass 90 = .ok (.iload 6, 2) := by decide +kernel
theorem dX11_pass_92 : decode cX11_pass 92 = .ok (.laload, 1) := by decide +kernel
theorem dX11_pass_93 : decode cX11_pass 93 = .ok (.lcmp, 1) := by decide +kernel
theorem dX11_pass_94 : decode cX11_pass 94 = .ok (.ifCond .gt 16, 3) := by decide +kernel
theorem dX11_pass_97 : decode cX11_pass 97 = .ok (.aload_n 0, 1) := by decide +kernel
theorem dX11_pass_98 : decode cX11_pass 98 = .ok (.iload 6, 2) := by decide +kernel
theorem dX11_pass_100 : decode cX11_pass 100 = .ok (.lload 7, 2) := by decide +kernel
theorem dX11_pass_102 : decode cX11_pass 102 = .ok (.iload 4, 2) := by decide +kernel
theorem dX11_pass_104 : decode cX11_pass 104 = .ok (.iload 5, 2) := by decide +kernel
theorem dX11_pass_106 : decode cX11_pass 106 = .ok (.invokevirtual 314, 3) := by decide +kernel
theorem dX11_pass_109 : decode cX11_pass 109 = .ok (.return_, 1) := by decide +kernel
theorem dX11_pass_110 : decode cX11_pass 110 = .ok (.aload_n 0, 1) := by decide +kernel
theorem dX11_pass_111 : decode cX11_pass 111 = .ok (.iload 6, 2) := by decide +kernel
theorem dX11_pass_113 : decode cX11_pass 113 = .ok (.invokevirtual 308, 3) := by decide +kernel
theorem dX11_pass_116 : decode cX11_pass 116 = .ok (.lookupswitch 74 #[(4, 28), (5, 59)], 28) := by decide +kernel
theorem dX11_pass_144 : decode cX11_pass 144 = .ok (.aload_n 0, 1) := by decide +kernel
theorem dX11_pass_145 : decode cX11_pass 145 = .ok (.iload 6, 2) := by decide +kernel
theorem dX11_pass_147 : decode cX11_pass 147 = .ok (.aload_n 0, 1) := by decide +kernel
theorem dX11_pass_148 : decode cX11_pass 148 = .ok (.iload 6, 2) := by decide +kernel
theorem dX11_pass_150 : decode cX11_pass 150 = .ok (.iconst 0, 1) := by decide +kernel
theorem dX11_pass_151 : decode cX11_pass 151 = .ok (.invokevirtual 318, 3) := by decide +kernel
theorem dX11_pass_154 : decode cX11_pass 154 = .ok (.iload_n 1, 1) := by decide +kernel
theorem dX11_pass_155 : decode cX11_pass 155 = .ok (.if_icmp .ne 7, 3) := by decide +kernel
theorem dX11_pass_158 : decode cX11_pass 158 = .ok (.iconst 0, 1) := by decide +kernel
theorem dX11_pass_159 : decode cX11_pass 159 = .ok (.goto 4, 3) := by decide +kernel
theorem dX11_pass_162 : decode cX11_pass 162 = .ok (.iconst 1, 1) := by decide +kernel
theorem dX11_pass_163 : decode cX11_pass 163 = .ok (.lload 7, 2) := by decide +kernel
theorem dX11_pass_165 : decode cX11_pass 165 = .ok (.iload 4, 2) := by decide +kernel
theorem dX11_pass_167 : decode cX11_pass 167 = .ok (.iload 5, 2) := by decide +kernel
theorem dX11_pass_169 : decode cX11_pass 169 = .ok (.invokevirtual 321, 3) := by decide +kernel
theorem dX11_pass_172 : decode cX11_pass 172 = .ok (.goto 30, 3) := by decide +kernel
theorem dX11_pass_175 : decode cX11_pass 175 = .ok (.aload_n 0, 1) := by decide +kernel
theorem dX11_pass_176 : decode cX11_pass 176 = .ok (.iload 6, 2) := by decide +kernel
theorem dX11_pass_178 : decode cX11_pass 178 = .ok (.lload 7, 2) := by decide +kernel
theorem dX11_pass_180 : decode cX11_pass 180 = .ok (.iload 4, 2) := by decide +kernel
theorem dX11_pass_182 : decode cX11_pass 182 = .ok (.iload 5, 2) := by decide +kernel
theorem dX11_pass_184 : decode cX11_pass 184 = .ok (.invokevirtual 325, 3) := by decide +kernel
theorem dX11_pass_187 : decode cX11_pass 187 = .ok (.goto 15, 3) := by decide +kernel
theorem dX11_pass_190 : decode cX11_pass 190 = .ok (.aload_n 0, 1) := by decide +kernel
theorem dX11_pass_191 : decode cX11_pass 191 = .ok (.iload 6, 2) := by decide +kernel
theorem dX11_pass_193 : decode cX11_pass 193 = .ok (.lload 7, 2) := by decide +kernel
theorem dX11_pass_195 : decode cX11_pass 195 = .ok (.iload 4, 2) := by decide +kernel
theorem dX11_pass_197 : decode cX11_pass 197 = .ok (.iload 5, 2) := by decide +kernel
theorem dX11_pass_199 : decode cX11_pass 199 = .ok (.invokevirtual 328, 3) := by decide +kernel
theorem dX11_pass_202 : decode cX11_pass 202 = .ok (.return_, 1) := by decide +kernel
theorem dX11_put_0 : decode cX11_put 0 = .ok (.aload_n 0, 1) := by decide +kernel
theorem dX11_put_1 : decode cX11_put 1 = .ok (.getfield 33, 3) := by decide +kernel
theorem dX11_put_4 : decode cX11_put 4 = .ok (.bipush 12, 2) := by decide +kernel
theorem dX11_put_6 : decode cX11_put 6 = .ok (.iload_n 1, 1) := by decide +kernel
theorem dX11_put_7 : decode cX11_put 7 = .ok (.iadd, 1) := by decide +kernel
theorem dX11_put_8 : decode cX11_put 8 = .ok (.laload, 1) := by decide +kernel
theorem dX11_put_9 : decode cX11_put 9 = .ok (.lstore 6, 2) := by decide +kernel
theorem dX11_put_11 : decode cX11_put 11 = .ok (.aload_n 0, 1) := by decide +kernel
theorem dX11_put_12 : decode cX11_put 12 = .ok (.getfield 36, 3) := by decide +kernel
theorem dX11_put_15 : decode cX11_put 15 = .ok (.bipush 12, 2) := by decide +kernel
theorem dX11_put_17 : decode cX11_put 17 = .ok (.iload_n 1, 1) := by decide +kernel
theorem dX11_put_18 : decode cX11_put 18 = .ok (.iadd, 1) := by decide +kernel
theorem dX11_put_19 : decode cX11_put 19 = .ok (.laload, 1) := by decide +kernel
theorem dX11_put_20 : decode cX11_put 20 = .ok (.lstore 8, 2) := by decide +kernel
theorem dX11_put_22 : decode cX11_put 22 = .ok (.lload_n 2, 1) := by decide +kernel
theorem dX11_put_23 : decode cX11_put 23 = .ok (.lload 8, 2) := by decide +kernel
theorem dX11_put_25 : decode cX11_put 25 = .ok (.invokestatic 331, 3) := by decide +kernel
theorem dX11_put_28 : decode cX11_put 28 = .ok (.lload 8, 2) := by decide +kernel
theorem dX11_put_30 : decode cX11_put 30 = .ok (.lmul, 1) := by decide +kernel
theorem dX11_put_31 : decode cX11_put 31 = .ok (.lstore 10, 2) := by decide +kernel
theorem dX11_put_33 : decode cX11_put 33 = .ok (.lload 10, 2) := by decide +kernel
theorem dX11_put_35 : decode cX11_put 35 = .ok (.lload 8, 2) := by decide +kernel
theorem dX11_put_37 : decode cX11_put 37 = .ok (.lsub, 1) := by decide +kernel
theorem dX11_put_38 : decode cX11_put 38 = .ok (.lload 6, 2) := by decide +kernel
theorem dX11_put_40 : decode cX11_put 40 = .ok (.ladd, 1) := by decide +kernel
theorem dX11_put_41 : decode cX11_put 41 = .ok (.lconst 1, 1) := by decide +kernel
theorem dX11_put_42 : decode cX11_put 42 = .ok (.lsub, 1) := by decide +kernel
theorem dX11_put_43 : decode cX11_put 43 = .ok (.lload_n 2, 1) := by decide +kernel
theorem dX11_put_44 : decode cX11_put 44 = .ok (.lcmp, 1) := by decide +kernel
theorem dX11_put_45 : decode cX11_put 45 = .ok (.ifCond .lt 13, 3) := by decide +kernel
theorem dX11_put_48 : decode cX11_put 48 = .ok (.lload 10, 2) := by decide +kernel
theorem dX11_put_50 : decode cX11_put 50 = .ok (.lload 8, 2) := by decide +kernel
theorem dX11_put_52 : decode cX11_put 52 = .ok (.lsub, 1) := by decide +kernel
theorem dX11_put_53 : decode cX11_put 53 = .ok (.lstore 10, 2) := by decide +kernel
theorem dX11_put_55 : decode cX11_put 55 = .ok (.goto (-22), 3) := by decide +kernel
theorem dX11_put_58 : decode cX11_put 58 = .ok (.lload 10, 2) := by decide +kernel
theorem dX11_put_60 : decode cX11_put 60 = .ok (.lstore 12, 2) := by decide +kernel
theorem dX11_put_62 : decode cX11_put 62 = .ok (.lload 12, 2) := by decide +kernel
theorem dX11_put_64 : decode cX11_put 64 = .ok (.lload_n 2, 1) := by decide +kernel
theorem dX11_put_65 : decode cX11_put 65 = .ok (.lcmp, 1) := by decide +kernel
theorem dX11_put_66 : decode cX11_put 66 = .ok (.ifCond .gt 167, 3) := by decide +kernel
theorem dX11_put_69 : decode cX11_put 69 = .ok (.iconst 0, 1) := by decide +kernel
theorem dX11_put_70 : decode cX11_put 70 = .ok (.istore 14, 2) := by decide +kernel
theorem dX11_put_72 : decode cX11_put 72 = .ok (.iload 14, 2) := by decide +kernel
theorem dX11_put_74 : decode cX11_put 74 = .ok (.aload_n 0, 1) := by decide +kernel
theorem dX11_put_75 : decode cX11_put 75 = .ok (.getfield 84, 3) := by decide +kernel
theorem dX11_put_78 : decode cX11_put 78 = .ok (.iload_n 1, 1) := by decide +kernel
theorem dX11_put_79 : decode cX11_put 79 = .ok (.iaload, 1) := by decide +kernel
theorem dX11_put_80 : decode cX11_put 80 = .ok (.if_icmp .ge 44, 3) := by decide +kernel
theorem dX11_put_83 : decode cX11_put 83 = .ok (.aload_n 0, 1) := by decide +kernel
theorem dX11_put_84 : decode cX11_put 84 = .ok (.getfield 87, 3) := by decide +kernel
theorem dX11_put_87 : decode cX11_put 87 = .ok (.bipush 24, 2) := by decide +kernel
theorem dX11_put_89 : decode cX11_put 89 = .ok (.iload_n 1, 1) := by decide +kernel
theorem dX11_put_90 : decode cX11_put 90 = .ok (.imul, 1) := by decide +kernel
theorem dX11_put_91 : decode cX11_put 91 = .ok (.iload 14, 2) := by decide +kernel
theorem dX11_put_93 : decode cX11_put 93 = .ok (.iadd, 1) := by decide +kernel
theorem dX11_put_94 : decode cX11_put 94 = .ok (.laload, 1) := by decide +kernel
theorem dX11_put_95 : decode cX11_put 95 = .ok (.lload 12, 2) := by decide +kernel
theorem dX11_put_97 : decode cX11_put 97 = .ok (.lcmp, 1) := by decide +kernel
theorem dX11_put_98 : decode cX11_put 98 = .ok (.ifCond .ne 20, 3) := by decide +kernel
theorem dX11_put_101 : decode cX11_put 101 = .ok (.aload_n 0, 1) := by decide +kernel
theorem dX11_put_102 : decode cX11_put 102 = .ok (.getfield 90, 3) := by decide +kernel
theorem dX11_put_105 : decode cX11_put 105 = .ok (.bipush 24, 2) := by decide +kernel
theorem dX11_put_107 : decode cX11_put 107 = .ok (.iload_n 1, 1) := by decide +kernel
theorem dX11_put_108 : decode cX11_put 108 = .ok (.imul, 1) := by decide +kernel
theorem dX11_put_109 : decode cX11_put 109 = .ok (.iload 14, 2) := by decide +kernel
theorem dX11_put_111 : decode cX11_put 111 = .ok (.iadd, 1) := by decide +kernel
theorem dX11_put_112 : decode cX11_put 112 = .ok (.iaload, 1) := by decide +kernel
theorem dX11_put_113 : decode cX11_put 113 = .ok (.iload 4, 2) := by decide +kernel
theorem dX11_put_115 : decode cX11_put 115 = .ok (.if_icmp .eq 9, 3) := by decide +kernel
theorem dX11_put_118 : decode cX11_put 118 = .ok (.iinc 14 1, 3) := by decide +kernel
theorem dX11_put_121 : decode cX11_put 121 = .ok (.goto (-49), 3) := by decide +kernel
theorem dX11_put_124 : decode cX11_put 124 = .ok (.iload 14, 2) := by decide +kernel
theorem dX11_put_126 : decode cX11_put 126 = .ok (.bipush 24, 2) := by decide +kernel
theorem dX11_put_128 : decode cX11_put 128 = .ok (.if_icmp .ne 16, 3) := by decide +kernel
theorem dX11_put_131 : decode cX11_put 131 = .ok (.aload_n 0, 1) := by decide +kernel
theorem dX11_put_132 : decode cX11_put 132 = .ok (.dup, 1) := by decide +kernel
theorem dX11_put_133 : decode cX11_put 133 = .ok (.getfield 289, 3) := by decide +kernel
theorem dX11_put_136 : decode cX11_put 136 = .ok (.iconst 1, 1) := by decide +kernel
theorem dX11_put_137 : decode cX11_put 137 = .ok (.iadd, 1) := by decide +kernel
theorem dX11_put_138 : decode cX11_put 138 = .ok (.putfield 289, 3) := by decide +kernel
theorem dX11_put_141 : decode cX11_put 141 = .ok (.goto 82, 3) := by decide +kernel
theorem dX11_put_144 : decode cX11_put 144 = .ok (.iload 14, 2) := by decide +kernel
theorem dX11_put_146 : decode cX11_put 146 = .ok (.aload_n 0, 1) := by decide +kernel
theorem dX11_put_147 : decode cX11_put 147 = .ok (.getfield 84, 3) := by decide +kernel
theorem dX11_put_150 : decode cX11_put 150 = .ok (.iload_n 1, 1) := by decide +kernel
theorem dX11_put_151 : decode cX11_put 151 = .ok (.iaload, 1) := by decide +kernel
theorem dX11_put_152 : decode cX11_put 152 = .ok (.if_icmp .ne 54, 3) := by decide +kernel
theorem dX11_put_155 : decode cX11_put 155 = .ok (.aload_n 0, 1) := by decide +kernel
theorem dX11_put_156 : decode cX11_put 156 = .ok (.getfield 87, 3) := by decide +kernel
theorem dX11_put_159 : decode cX11_put 159 = .ok (.bipush 24, 2) := by decide +kernel
theorem dX11_put_161 : decode cX11_put 161 = .ok (.iload_n 1, 1) := by decide +kernel
theorem dX11_put_162 : decode cX11_put 162 = .ok (.imul, 1) := by decide +kernel
theorem dX11_put_163 : decode cX11_put 163 = .ok (.iload 14, 2) := by decide +kernel
theorem dX11_put_165 : decode cX11_put 165 = .ok (.iadd, 1) := by decide +kernel
theorem dX11_put_166 : decode cX11_put 166 = .ok (.lload 12, 2) := by decide +kernel
theorem dX11_put_168 : decode cX11_put 168 = .ok (.lastore, 1) := by decide +kernel
theorem dX11_put_169 : decode cX11_put 169 = .ok (.aload_n 0, 1) := by decide +kernel
theorem dX11_put_170 : decode cX11_put 170 = .ok (.getfield 90, 3) := by decide +kernel
theorem dX11_put_173 : decode cX11_put 173 = .ok (.bipush 24, 2) := by decide +kernel
theorem dX11_put_175 : decode cX11_put 175 = .ok (.iload_n 1, 1) := by decide +kernel
theorem dX11_put_176 : decode cX11_put 176 = .ok (.imul, 1) := by decide +kernel
theorem dX11_put_177 : decode cX11_put 177 = .ok (.iload 14, 2) := by decide +kernel
theorem dX11_put_179 : decode cX11_put 179 = .ok (.iadd, 1) := by decide +kernel
theorem dX11_put_180 : decode cX11_put 180 = .ok (.iload 4, 2) := by decide +kernel
theorem dX11_put_182 : decode cX11_put 182 = .ok (.iastore, 1) := by decide +kernel
theorem dX11_put_183 : decode cX11_put 183 = .ok (.aload_n 0, 1) := by decide +kernel
theorem dX11_put_184 : decode cX11_put 184 = .ok (.getfield 93, 3) := by decide +kernel
theorem dX11_put_187 : decode cX11_put 187 = .ok (.bipush 24, 2) := by decide +kernel
theorem dX11_put_189 : decode cX11_put 189 = .ok (.iload_n 1, 1) := by decide +kernel
theorem dX11_put_190 : decode cX11_put 190 = .ok (.imul, 1) := by decide +kernel
theorem dX11_put_191 : decode cX11_put 191 = .ok (.iload 14, 2) := by decide +kernel
theorem dX11_put_193 : decode cX11_put 193 = .ok (.iadd, 1) := by decide +kernel
theorem dX11_put_194 : decode cX11_put 194 = .ok (.iconst 0, 1) := by decide +kernel
theorem dX11_put_195 : decode cX11_put 195 = .ok (.iastore, 1) := by decide +kernel
theorem dX11_put_196 : decode cX11_put 196 = .ok (.aload_n 0, 1) := by decide +kernel
theorem dX11_put_197 : decode cX11_put 197 = .ok (.getfield 84, 3) := by decide +kernel
theorem dX11_put_200 : decode cX11_put 200 = .ok (.iload_n 1, 1) := by decide +kernel
theorem dX11_put_201 : decode cX11_put 201 = .ok (.dup2, 1) := by decide +kernel
theorem dX11_put_202 : decode cX11_put 202 = .ok (.iaload, 1) := by decide +kernel
theorem dX11_put_203 : decode cX11_put 203 = .ok (.iconst 1, 1) := by decide +kernel
theorem dX11_put_204 : decode cX11_put 204 = .ok (.iadd, 1) := by decide +kernel
theorem dX11_put_205 : decode cX11_put 205 = .ok (.iastore, 1) := by decide +kernel
theorem dX11_put_206 : decode cX11_put 206 = .ok (.aload_n 0, 1) := by decide +kernel
theorem dX11_put_207 : decode cX11_put 207 = .ok (.getfield 93, 3) := by decide +kernel
theorem dX11_put_210 : decode cX11_put 210 = .ok (.bipush 24, 2) := by decide +kernel
theorem dX11_put_212 : decode cX11_put 212 = .ok (.iload_n 1, 1) := by decide +kernel
theorem dX11_put_213 : decode cX11_put 213 = .ok (.imul, 1) := by decide +kernel
theorem dX11_put_214 : decode cX11_put 214 = .ok (.iload 14, 2) := by decide +kernel
theorem dX11_put_216 : decode cX11_put 216 = .ok (.iadd, 1) := by decide +kernel
theorem dX11_put_217 : decode cX11_put 217 = .ok (.dup2, 1) := by decide +kernel
theorem dX11_put_218 : decode cX11_put 218 = .ok (.iaload, 1) := by decide +kernel
theorem dX11_put_219 : decode cX11_put 219 = .ok (.iload 5, 2) := by decide +kernel
theorem dX11_put_221 : decode cX11_put 221 = .ok (.iadd, 1) := by decide +kernel
theorem dX11_put_222 : decode cX11_put 222 = .ok (.iastore, 1) := by decide +kernel
theorem dX11_put_223 : decode cX11_put 223 = .ok (.lload 12, 2) := by decide +kernel
theorem dX11_put_225 : decode cX11_put 225 = .ok (.lload 8, 2) := by decide +kernel
theorem dX11_put_227 : decode cX11_put 227 = .ok (.ladd, 1) := by decide +kernel
theorem dX11_put_228 : decode cX11_put 228 = .ok (.lstore 12, 2) := by decide +kernel
theorem dX11_put_230 : decode cX11_put 230 = .ok (.goto (-168), 3) := by decide +kernel
theorem dX11_put_233 : decode cX11_put 233 = .ok (.return_, 1) := by decide +kernel
theorem dX11_isFar_0 : decode cX11_isFar 0 = .ok (.iload_n 2, 1) := by decide +kernel
theorem dX11_isFar_1 : decode cX11_isFar 1 = .ok (.ifCond .ne 39, 3) := by decide +kernel
theorem dX11_isFar_4 : decode cX11_isFar 4 = .ok (.lload_n 3, 1) := by decide +kernel
theorem dX11_isFar_5 : decode cX11_isFar 5 = .ok (.aload_n 0, 1) := by decide +kernel
theorem dX11_isFar_6 : decode cX11_isFar 6 = .ok (.getfield 36, 3) := by decide +kernel
theorem dX11_isFar_9 : decode cX11_isFar 9 = .ok (.bipush 12, 2) := by decide +kernel
theorem dX11_isFar_11 : decode cX11_isFar 11 = .ok (.iload_n 1, 1) := by decide +kernel
theorem dX11_isFar_12 : decode cX11_isFar 12 = .ok (.iadd, 1) := by decide +kernel
theorem dX11_isFar_13 : decode cX11_isFar 13 = .ok (.laload, 1) := by decide +kernel
theorem dX11_isFar_14 : decode cX11_isFar 14 = .ok (.invokestatic 311, 3) := by decide +kernel
theorem dX11_isFar_17 : decode cX11_isFar 17 = .ok (.aload_n 0, 1) := by decide +kernel
theorem dX11_isFar_18 : decode cX11_isFar 18 = .ok (.getfield 63, 3) := by decide +kernel
theorem dX11_isFar_21 : decode cX11_isFar 21 = .ok (.aload_n 0, 1) := by decide +kernel
theorem dX11_isFar_22 : decode cX11_isFar 22 = .ok (.iload_n 1, 1) := by decide +kernel
theorem dX11_isFar_23 : decode cX11_isFar 23 = .ok (.iconst 1, 1) := by decide +kernel
theorem dX11_isFar_24 : decode cX11_isFar 24 = .ok (.invokevirtual 318, 3) := by decide +kernel
theorem dX11_isFar_27 : decode cX11_isFar 27 = .ok (.laload, 1) := by decide +kernel
theorem dX11_isFar_28 : decode cX11_isFar 28 = .ok (.lcmp, 1) := by decide +kernel
theorem dX11_isFar_29 : decode cX11_isFar 29 = .ok (.ifCond .gt 7, 3) := by decide +kernel
theorem dX11_isFar_32 : decode cX11_isFar 32 = .ok (.iconst 1, 1) := by decide +kernel
theorem dX11_isFar_33 : decode cX11_isFar 33 = .ok (.goto 41, 3) := by decide +kernel
theorem dX11_isFar_36 : decode cX11_isFar 36 = .ok (.iconst 0, 1) := by decide +kernel
theorem dX11_isFar_37 : decode cX11_isFar 37 = .ok (.goto 37, 3) := by decide +kernel
theorem dX11_isFar_40 : decode cX11_isFar 40 = .ok (.lload_n 3, 1) := by decide +kernel
theorem dX11_isFar_41 : decode cX11_isFar 41 = .ok (.aload_n 0, 1) := by decide +kernel
theorem dX11_isFar_42 : decode cX11_isFar 42 = .ok (.getfield 33, 3) := by decide +kernel
theorem dX11_isFar_45 : decode cX11_isFar 45 = .ok (.bipush 12, 2) := by decide +kernel
theorem dX11_isFar_47 : decode cX11_isFar 47 = .ok (.iload_n 1, 1) := by decide +kernel
theorem dX11_isFar_48 : decode cX11_isFar 48 = .ok (.iadd, 1) := by decide +kernel
theorem dX11_isFar_49 : decode cX11_isFar 49 = .ok (.laload, 1) := by decide +kernel
theorem dX11_isFar_50 : decode cX11_isFar 50 = .ok (.lneg, 1) := by decide +kernel
theorem dX11_isFar_51 : decode cX11_isFar 51 = .ok (.invokestatic 311, 3) := by decide +kernel
theorem dX11_isFar_54 : decode cX11_isFar 54 = .ok (.aload_n 0, 1) := by decide +kernel
theorem dX11_isFar_55 : decode cX11_isFar 55 = .ok (.getfield 63, 3) := by decide +kernel
theorem dX11_isFar_58 : decode cX11_isFar 58 = .ok (.aload_n 0, 1) := by decide +kernel
theorem dX11_isFar_59 : decode cX11_isFar 59 = .ok (.iload_n 1, 1) := by decide +kernel
theorem dX11_isFar_60 : decode cX11_isFar 60 = .ok (.iconst 0, 1) := by decide +kernel
theorem dX11_isFar_61 : decode cX11_isFar 61 = .ok (.invokevirtual 318, 3) := by decide +kernel
theorem dX11_isFar_64 : decode cX11_isFar 64 = .ok (.laload, 1) := by decide +kernel
theorem dX11_isFar_65 : decode cX11_isFar 65 = .ok (.lcmp, 1) := by decide +kernel
theorem dX11_isFar_66 : decode cX11_isFar 66 = .ok (.ifCond .gt 7, 3) := by decide +kernel
theorem dX11_isFar_69 : decode cX11_isFar 69 = .ok (.iconst 1, 1) := by decide +kernel
theorem dX11_isFar_70 : decode cX11_isFar 70 = .ok (.goto 4, 3) := by decide +kernel
theorem dX11_isFar_73 : decode cX11_isFar 73 = .ok (.iconst 0, 1) := by decide +kernel
theorem dX11_isFar_74 : decode cX11_isFar 74 = .ok (.ireturn, 1) := by decide +kernel
theorem dX11_meet_0 : decode cX11_meet 0 = .ok (.iconst 2, 1) := by decide +kernel
theorem dX11_meet_1 : decode cX11_meet 1 = .ok (.iload_n 1, 1) := by decide +kernel
theorem dX11_meet_2 : decode cX11_meet 2 = .ok (.imul, 1) := by decide +kernel
theorem dX11_meet_3 : decode cX11_meet 3 = .ok (.iconst 1, 1) := by decide +kernel
theorem dX11_meet_4 : decode cX11_meet 4 = .ok (.iadd, 1) := by decide +kernel
theorem dX11_meet_5 : decode cX11_meet 5 = .ok (.iload_n 2, 1) := by decide +kernel
theorem dX11_meet_6 : decode cX11_meet 6 = .ok (.isub, 1) := by decide +kernel
theorem dX11_meet_7 : decode cX11_meet 7 = .ok (.istore 7, 2) := by decide +kernel
theorem dX11_meet_9 : decode cX11_meet 9 = .ok (.iconst 0, 1) := by decide +kernel
theorem dX11_meet_10 : decode cX11_meet 10 = .ok (.istore 8, 2) := by decide +kernel
theorem dX11_meet_12 : decode cX11_meet 12 = .ok (.iload 8, 2) := by decide +kernel
theorem dX11_meet_14 : decode cX11_meet 14 = .ok (.aload_n 0, 1) := by decide +kernel
theorem dX11_meet_15 : decode cX11_meet 15 = .ok (.getfield 96, 3) := by decide +kernel
theorem dX11_meet_18 : decode cX11_meet 18 = .ok (.iload 7, 2) := by decide +kernel
theorem dX11_meet_20 : decode cX11_meet 20 = .ok (.iaload, 1) := by decide +kernel
theorem dX11_meet_21 : decode cX11_meet 21 = .ok (.if_icmp .ge 147, 3) := by decide +kernel
theorem dX11_meet_24 : decode cX11_meet 24 = .ok (.aload_n 0, 1) := by decide +kernel
theorem dX11_meet_25 : decode cX11_meet 25 = .ok (.getfield 99, 3) := by decide +kernel
theorem dX11_meet_28 : decode cX11_meet 28 = .ok (.bipush 6, 2) := by decide +kernel
theorem dX11_meet_30 : decode cX11_meet 30 = .ok (.iload 7, 2) := by decide +kernel
theorem dX11_meet_32 : decode cX11_meet 32 = .ok (.imul, 1) := by decide +kernel
theorem dX11_meet_33 : decode cX11_meet 33 = .ok (.iload 8, 2) := by decide +kernel
theorem dX11_meet_35 : decode cX11_meet 35 = .ok (.iadd, 1) := by decide +kernel
theorem dX11_meet_36 : decode cX11_meet 36 = .ok (.laload, 1) := by decide +kernel
theorem dX11_meet_37 : decode cX11_meet 37 = .ok (.lstore 9, 2) := by decide +kernel
theorem dX11_meet_39 : decode cX11_meet 39 = .ok (.iload_n 2, 1) := by decide +kernel
theorem dX11_meet_40 : decode cX11_meet 40 = .ok (.ifCond .ne 7, 3) := by decide +kernel
theorem dX11_meet_43 : decode cX11_meet 43 = .ok (.lload_n 3, 1) := by decide +kernel
theorem dX11_meet_44 : decode cX11_meet 44 = .ok (.goto 5, 3) := by decide +kernel
theorem dX11_meet_47 : decode cX11_meet 47 = .ok (.lload 9, 2) := by decide +kernel
theorem dX11_meet_49 : decode cX11_meet 49 = .ok (.lstore 11, 2) := by decide +kernel
theorem dX11_meet_51 : decode cX11_meet 51 = .ok (.iload_n 2, 1) := by decide +kernel
theorem dX11_meet_52 : decode cX11_meet 52 = .ok (.ifCond .ne 8, 3) := by decide +kernel
theorem dX11_meet_55 : decode cX11_meet 55 = .ok (.lload 9, 2) := by decide +kernel
theorem dX11_meet_57 : decode cX11_meet 57 = .ok (.goto 4, 3) := by decide +kernel
theorem dX11_meet_60 : decode cX11_meet 60 = .ok (.lload_n 3, 1) := by decide +kernel
theorem dX11_meet_61 : decode cX11_meet 61 = .ok (.lstore 13, 2) := by decide +kernel
theorem dX11_meet_63 : decode cX11_meet 63 = .ok (.aload_n 0, 1) := by decide +kernel
theorem dX11_meet_64 : decode cX11_meet 64 = .ok (.getfield 102, 3) := by decide +kernel
theorem dX11_meet_67 : decode cX11_meet 67 = .ok (.bipush 6, 2) := by decide +kernel
theorem dX11_meet_69 : decode cX11_meet 69 = .ok (.iload 7, 2) := by decide +kernel
theorem dX11_meet_71 : decode cX11_meet 71 = .ok (.imul, 1) := by decide +kernel
theorem dX11_meet_72 : decode cX11_meet 72 = .ok (.iload 8, 2) := by decide +kernel
theorem dX11_meet_74 : decode cX11_meet 74 = .ok (.iadd, 1) := by decide +kernel
theorem dX11_meet_75 : decode cX11_meet 75 = .ok (.iaload, 1) := by decide +kernel
theorem dX11_meet_76 : decode cX11_meet 76 = .ok (.iload 5, 2) := by decide +kernel
theorem dX11_meet_78 : decode cX11_meet 78 = .ok (.if_icmp .ne 47, 3) := by decide +kernel
theorem dX11_meet_81 : decode cX11_meet 81 = .ok (.lload 11, 2) := by decide +kernel
theorem dX11_meet_83 : decode cX11_meet 83 = .ok (.aload_n 0, 1) := by decide +kernel
theorem dX11_meet_84 : decode cX11_meet 84 = .ok (.getfield 33, 3) := by decide +kernel
theorem dX11_meet_87 : decode cX11_meet 87 = .ok (.bipush 12, 2) := by decide +kernel
theorem dX11_meet_89 : decode cX11_meet 89 = .ok (.iload_n 1, 1) := by decide +kernel
theorem dX11_meet_90 : decode cX11_meet 90 = .ok (.iadd, 1) := by decide +kernel
theorem dX11_meet_91 : decode cX11_meet 91 = .ok (.laload, 1) := by decide +kernel
theorem dX11_meet_92 : decode cX11_meet 92 = .ok (.invokestatic 311, 3) := by decide +kernel
theorem dX11_meet_95 : decode cX11_meet 95 = .ok (.lload 13, 2) := by decide +kernel
theorem dX11_meet_97 : decode cX11_meet 97 = .ok (.lcmp, 1) := by decide +kernel
theorem dX11_meet_98 : decode cX11_meet 98 = .ok (.ifCond .gt 27, 3) := by decide +kernel
theorem dX11_meet_101 : decode cX11_meet 101 = .ok (.lload 13, 2) := by decide +kernel
theorem dX11_meet_103 : decode cX11_meet 103 = .ok (.lload 11, 2) := by decide +kernel
theorem dX11_meet_105 : decode cX11_meet 105 = .ok (.aload_n 0, 1) := by decide +kernel
theorem dX11_meet_106 : decode cX11_meet 106 = .ok (.getfield 36, 3) := by decide +kernel
theorem dX11_meet_109 : decode cX11_meet 109 = .ok (.bipush 12, 2) := by decide +kernel
theorem dX11_meet_111 : decode cX11_meet 111 = .ok (.iload_n 1, 1) := by decide +kernel
theorem dX11_meet_112 : decode cX11_meet 112 = .ok (.iadd, 1) := by decide +kernel
theorem dX11_meet_113 : decode cX11_meet 113 = .ok (.laload, 1) := by decide +kernel
theorem dX11_meet_114 : decode cX11_meet 114 = .ok (.invokestatic 311, 3) := by decide +kernel
theorem dX11_meet_117 : decode cX11_meet 117 = .ok (.lcmp, 1) := by decide +kernel
theorem dX11_meet_118 : decode cX11_meet 118 = .ok (.ifCond .gt 7, 3) := by decide +kernel
theorem dX11_meet_121 : decode cX11_meet 121 = .ok (.iconst 1, 1) := by decide +kernel
theorem dX11_meet_122 : decode cX11_meet 122 = .ok (.goto 4, 3) := by decide +kernel
theorem dX11_meet_125 : decode cX11_meet 125 = .ok (.iconst 0, 1) := by decide +kernel
theorem dX11_meet_126 : decode cX11_meet 126 = .ok (.istore 15, 2) := by decide +kernel
theorem dX11_meet_128 : decode cX11_meet 128 = .ok (.iload 15, 2) := by decide +kernel
theorem dX11_meet_130 : decode cX11_meet 130 = .ok (.ifCond .eq 32, 3) := by decide +kernel
theorem dX11_meet_133 : decode cX11_meet 133 = .ok (.aload_n 0, 1) := by decide +kernel
theorem dX11_meet_134 : decode cX11_meet 134 = .ok (.iload_n 1, 1) := by decide +kernel
theorem dX11_meet_135 : decode cX11_meet 135 = .ok (.lload_n 3, 1) := by decide +kernel
theorem dX11_meet_136 : decode cX11_meet 136 = .ok (.lload 9, 2) := by decide +kernel
theorem dX11_meet_138 : decode cX11_meet 138 = .ok (.invokestatic 336, 3) := by decide +kernel
theorem dX11_meet_141 : decode cX11_meet 141 = .ok (.iload 5, 2) := by decide +kernel
theorem dX11_meet_143 : decode cX11_meet 143 = .ok (.iload 6, 2) := by decide +kernel
theorem dX11_meet_145 : decode cX11_meet 145 = .ok (.aload_n 0, 1) := by decide +kernel
theorem dX11_meet_146 : decode cX11_meet 146 = .ok (.getfield 105, 3) := by decide +kernel
theorem dX11_meet_149 : decode cX11_meet 149 = .ok (.bipush 6, 2) := by decide +kernel
theorem dX11_meet_151 : decode cX11_meet 151 = .ok (.iload 7, 2) := by decide +kernel
theorem dX11_meet_153 : decode cX11_meet 153 = .ok (.imul, 1) := by decide +kernel
theorem dX11_meet_154 : decode cX11_meet 154 = .ok (.iload 8, 2) := by decide +kernel
theorem dX11_meet_156 : decode cX11_meet 156 = .ok (.iadd, 1) := by decide +kernel
theorem dX11_meet_157 : decode cX11_meet 157 = .ok (.iaload, 1) := by decide +kernel
theorem dX11_meet_158 : decode cX11_meet 158 = .ok (.imul, 1) := by decide +kernel
theorem dX11_meet_159 : decode cX11_meet 159 = .ok (.invokevirtual 328, 3) := by decide +kernel
theorem dX11_meet_162 : decode cX11_meet 162 = .ok (.iinc 8 1, 3) := by decide +kernel
theorem dX11_meet_165 : decode cX11_meet 165 = .ok (.goto (-153), 3) := by decide +kernel
theorem dX11_meet_168 : decode cX11_meet 168 = .ok (.aload_n 0, 1) := by decide +kernel
theorem dX11_meet_169 : decode cX11_meet 169 = .ok (.iload_n 1, 1) := by decide +kernel
theorem dX11_meet_170 : decode cX11_meet 170 = .ok (.iload_n 2, 1) := by decide +kernel
theorem dX11_meet_171 : decode cX11_meet 171 = .ok (.lload_n 3, 1) := by decide +kernel
theorem dX11_meet_172 : decode cX11_meet 172 = .ok (.invokevirtual 339, 3) := by decide +kernel
theorem dX11_meet_175 : decode cX11_meet 175 = .ok (.ifCond .eq 4, 3) := by decide +kernel
theorem dX11_meet_178 : decode cX11_meet 178 = .ok (.return_, 1) := by decide +kernel
theorem dX11_meet_179 : decode cX11_meet 179 = .ok (.iconst 2, 1) := by decide +kernel
theorem dX11_meet_180 : decode cX11_meet 180 = .ok (.iload_n 1, 1) := by decide +kernel
theorem dX11_meet_181 : decode cX11_meet 181 = .ok (.imul, 1) := by decide +kernel
theorem dX11_meet_182 : decode cX11_meet 182 = .ok (.iload_n 2, 1) := by decide +kernel
theorem dX11_meet_183 : decode cX11_meet 183 = .ok (.iadd, 1) := by decide +kernel
theorem dX11_meet_184 : decode cX11_meet 184 = .ok (.istore 8, 2) := by decide +kernel
theorem dX11_meet_186 : decode cX11_meet 186 = .ok (.aload_n 0, 1) := by decide +kernel
theorem dX11_meet_187 : decode cX11_meet 187 = .ok (.getfield 96, 3) := by decide +kernel
theorem dX11_meet_190 : decode cX11_meet 190 = .ok (.iload 8, 2) := by decide +kernel
theorem dX11_meet_192 : decode cX11_meet 192 = .ok (.iaload, 1) := by decide +kernel
theorem dX11_meet_193 : decode cX11_meet 193 = .ok (.bipush 6, 2) := by decide +kernel
theorem dX11_meet_195 : decode cX11_meet 195 = .ok (.if_icmp .ne 20, 3) := by decide +kernel
theorem dX11_meet_198 : decode cX11_meet 198 = .ok (.aload_n 0, 1) := by decide +kernel
theorem dX11_meet_199 : decode cX11_meet 199 = .ok (.iload 8, 2) := by decide +kernel
theorem dX11_meet_201 : decode cX11_meet 201 = .ok (.iconst 0, 1) := by decide +kernel
theorem dX11_meet_202 : decode cX11_meet 202 = .ok (.invokevirtual 343, 3) := by decide +kernel
theorem dX11_meet_205 : decode cX11_meet 205 = .ok (.aload_n 0, 1) := by decide +kernel
theorem dX11_meet_206 : decode cX11_meet 206 = .ok (.dup, 1) := by decide +kernel
theorem dX11_meet_207 : decode cX11_meet 207 = .ok (.getfield 289, 3) := by decide +kernel
theorem dX11_meet_210 : decode cX11_meet 210 = .ok (.iconst 1, 1) := by decide +kernel
theorem dX11_meet_211 : decode cX11_meet 211 = .ok (.iadd, 1) := by decide +kernel
theorem dX11_meet_212 : decode cX11_meet 212 = .ok (.putfield 289, 3) := by decide +kernel
theorem dX11_meet_215 : decode cX11_meet 215 = .ok (.bipush 6, 2) := by decide +kernel
theorem dX11_meet_217 : decode cX11_meet 217 = .ok (.iload 8, 2) := by decide +kernel
theorem dX11_meet_219 : decode cX11_meet 219 = .ok (.imul, 1) := by decide +kernel
theorem dX11_meet_220 : decode cX11_meet 220 = .ok (.aload_n 0, 1) := by decide +kernel
theorem dX11_meet_221 : decode cX11_meet 221 = .ok (.getfield 96, 3) := by decide +kernel
theorem dX11_meet_224 : decode cX11_meet 224 = .ok (.iload 8, 2) := by decide +kernel
theorem dX11_meet_226 : decode cX11_meet 226 = .ok (.iaload, 1) := by decide +kernel
theorem dX11_meet_227 : decode cX11_meet 227 = .ok (.iadd, 1) := by decide +kernel
theorem dX11_meet_228 : decode cX11_meet 228 = .ok (.istore 9, 2) := by decide +kernel
theorem dX11_meet_230 : decode cX11_meet 230 = .ok (.aload_n 0, 1) := by decide +kernel
theorem dX11_meet_231 : decode cX11_meet 231 = .ok (.getfield 99, 3) := by decide +kernel
theorem dX11_meet_234 : decode cX11_meet 234 = .ok (.iload 9, 2) := by decide +kernel
theorem dX11_meet_236 : decode cX11_meet 236 = .ok (.lload_n 3, 1) := by decide +kernel
theorem dX11_meet_237 : decode cX11_meet 237 = .ok (.lastore, 1) := by decide +kernel
theorem dX11_meet_238 : decode cX11_meet 238 = .ok (.aload_n 0, 1) := by decide +kernel
theorem dX11_meet_239 : decode cX11_meet 239 = .ok (.getfield 102, 3) := by decide +kernel
theorem dX11_meet_242 : decode cX11_meet 242 = .ok (.iload 9, 2) := by decide +kernel
theorem dX11_meet_244 : decode cX11_meet 244 = .ok (.iload 5, 2) := by decide +kernel
theorem dX11_meet_246 : decode cX11_meet 246 = .ok (.iastore, 1) := by decide +kernel
theorem dX11_meet_247 : decode cX11_meet 247 = .ok (.aload_n 0, 1) := by decide +kernel
theorem dX11_meet_248 : decode cX11_meet 248 = .ok (.getfield 105, 3) := by decide +kernel
theorem dX11_meet_251 : decode cX11_meet 251 = .ok (.iload 9, 2) := by decide +kernel
theorem dX11_meet_253 : decode cX11_meet 253 = .ok (.iload 6, 2) := by decide +kernel
theorem dX11_meet_255 : decode cX11_meet 255 = .ok (.iastore, 1) := by decide +kernel
theorem dX11_meet_256 : decode cX11_meet 256 = .ok (.aload_n 0, 1) := by decide +kernel
theorem dX11_meet_257 : decode cX11_meet 257 = .ok (.getfield 96, 3) := by decide +kernel
theorem dX11_meet_260 : decode cX11_meet 260 = .ok (.iload 8, 2) := by decide +kernel
theorem dX11_meet_262 : decode cX11_meet 262 = .ok (.dup2, 1) := by decide +kernel
theorem dX11_meet_263 : decode cX11_meet 263 = .ok (.iaload, 1) := by decide +kernel
theorem dX11_meet_264 : decode cX11_meet 264 = .ok (.iconst 1, 1) := by decide +kernel
theorem dX11_meet_265 : decode cX11_meet 265 = .ok (.iadd, 1) := by decide +kernel
theorem dX11_meet_266 : decode cX11_meet 266 = .ok (.iastore, 1) := by decide +kernel
theorem dX11_meet_267 : decode cX11_meet 267 = .ok (.return_, 1) := by decide +kernel
theorem dX11_drop_0 : decode cX11_drop 0 = .ok (.aload_n 0, 1) := by decide +kernel
theorem dX11_drop_1 : decode cX11_drop 1 = .ok (.getfield 96, 3) := by decide +kernel
theorem dX11_drop_4 : decode cX11_drop 4 = .ok (.iload_n 1, 1) := by decide +kernel
theorem dX11_drop_5 : decode cX11_drop 5 = .ok (.dup2, 1) := by decide +kernel
theorem dX11_drop_6 : decode cX11_drop 6 = .ok (.iaload, 1) := by decide +kernel
theorem dX11_drop_7 : decode cX11_drop 7 = .ok (.iconst 1, 1) := by decide +kernel
theorem dX11_drop_8 : decode cX11_drop 8 = .ok (.isub, 1) := by decide +kernel
theorem dX11_drop_9 : decode cX11_drop 9 = .ok (.iastore, 1) := by decide +kernel
theorem dX11_drop_10 : decode cX11_drop 10 = .ok (.bipush 6, 2) := by decide +kernel
theorem dX11_drop_12 : decode cX11_drop 12 = .ok (.iload_n 1, 1) := by decide +kernel
theorem dX11_drop_13 : decode cX11_drop 13 = .ok (.imul, 1) := by decide +kernel
theorem dX11_drop_14 : decode cX11_drop 14 = .ok (.iload_n 2, 1) := by decide +kernel
theorem dX11_drop_15 : decode cX11_drop 15 = .ok (.iadd, 1) := by decide +kernel
theorem dX11_drop_16 : decode cX11_drop 16 = .ok (.istore_n 3, 1) := by decide +kernel
theorem dX11_drop_17 : decode cX11_drop 17 = .ok (.iload_n 3, 1) := by decide +kernel
theorem dX11_drop_18 : decode cX11_drop 18 = .ok (.bipush 6, 2) := by decide +kernel
theorem dX11_drop_20 : decode cX11_drop 20 = .ok (.iload_n 1, 1) := by decide +kernel
theorem dX11_drop_21 : decode cX11_drop 21 = .ok (.imul, 1) := by decide +kernel
theorem dX11_drop_22 : decode cX11_drop 22 = .ok (.aload_n 0, 1) := by decide +kernel
theorem dX11_drop_23 : decode cX11_drop 23 = .ok (.getfield 96, 3) := by decide +kernel
theorem dX11_drop_26 : decode cX11_drop 26 = .ok (.iload_n 1, 1) := by decide +kernel
theorem dX11_drop_27 : decode cX11_drop 27 = .ok (.iaload, 1) := by decide +kernel
theorem dX11_drop_28 : decode cX11_drop 28 = .ok (.iadd, 1) := by decide +kernel
theorem dX11_drop_29 : decode cX11_drop 29 = .ok (.if_icmp .ge 51, 3) := by decide +kernel
theorem dX11_drop_32 : decode cX11_drop 32 = .ok (.aload_n 0, 1) := by decide +kernel
theorem dX11_drop_33 : decode cX11_drop 33 = .ok (.getfield 99, 3) := by decide +kernel
theorem dX11_drop_36 : decode cX11_drop 36 = .ok (.iload_n 3, 1) := by decide +kernel
theorem dX11_drop_37 : decode cX11_drop 37 = .ok (.aload_n 0, 1) := by decide +kernel
theorem dX11_drop_38 : decode cX11_drop 38 = .ok (.getfield 99, 3) := by decide +kernel
theorem dX11_drop_41 : decode cX11_drop 41 = .ok (.iload_n 3, 1) := by decide +kernel
theorem dX11_drop_42 : decode cX11_drop 42 = .ok (.iconst 1, 1) := by decide +kernel
theorem dX11_drop_43 : decode cX11_drop 43 = .ok (.iadd, 1) := by decide +kernel
theorem dX11_drop_44 : decode cX11_drop 44 = .ok (.laload, 1) := by decide +kernel
theorem dX11_drop_45 : decode cX11_drop 45 = .ok (.lastore, 1) := by decide +kernel
theorem dX11_drop_46 : decode cX11_drop 46 = .ok (.aload_n 0, 1) := by decide +kernel
theorem dX11_drop_47 : decode cX11_drop 47 = .ok (.getfield 102, 3) := by decide +kernel
theorem dX11_drop_50 : decode cX11_drop 50 = .ok (.iload_n 3, 1) := by decide +kernel
theorem dX11_drop_51 : decode cX11_drop 51 = .ok (.aload_n 0, 1) := by decide +kernel
theorem dX11_drop_52 : decode cX11_drop 52 = .ok (.getfield 102, 3) := by decide +kernel
theorem dX11_drop_55 : decode cX11_drop 55 = .ok (.iload_n 3, 1) := by decide +kernel
theorem dX11_drop_56 : decode cX11_drop 56 = .ok (.iconst 1, 1) := by decide +kernel
theorem dX11_drop_57 : decode cX11_drop 57 = .ok (.iadd, 1) := by decide +kernel
theorem dX11_drop_58 : decode cX11_drop 58 = .ok (.iaload, 1) := by decide +kernel
theorem dX11_drop_59 : decode cX11_drop 59 = .ok (.iastore, 1) := by decide +kernel
theorem dX11_drop_60 : decode cX11_drop 60 = .ok (.aload_n 0, 1) := by decide +kernel
theorem dX11_drop_61 : decode cX11_drop 61 = .ok (.getfield 105, 3) := by decide +kernel
theorem dX11_drop_64 : decode cX11_drop 64 = .ok (.iload_n 3, 1) := by decide +kernel
theorem dX11_drop_65 : decode cX11_drop 65 = .ok (.aload_n 0, 1) := by decide +kernel
theorem dX11_drop_66 : decode cX11_drop 66 = .ok (.getfield 105, 3) := by decide +kernel
theorem dX11_drop_69 : decode cX11_drop 69 = .ok (.iload_n 3, 1) := by decide +kernel
theorem dX11_drop_70 : decode cX11_drop 70 = .ok (.iconst 1, 1) := by decide +kernel
theorem dX11_drop_71 : decode cX11_drop 71 = .ok (.iadd, 1) := by decide +kernel
theorem dX11_drop_72 : decode cX11_drop 72 = .ok (.iaload, 1) := by decide +kernel
theorem dX11_drop_73 : decode cX11_drop 73 = .ok (.iastore, 1) := by decide +kernel
theorem dX11_drop_74 : decode cX11_drop 74 = .ok (.iinc 3 1, 3) := by decide +kernel
theorem dX11_drop_77 : decode cX11_drop 77 = .ok (.goto (-60), 3) := by decide +kernel
theorem dX11_drop_80 : decode cX11_drop 80 = .ok (.return_, 1) := by decide +kernel
theorem dX11_least_0 : decode cX11_least 0 = .ok (.aload_n 0, 1) := by decide +kernel
theorem dX11_least_1 : decode cX11_least 1 = .ok (.aload_n 0, 1) := by decide +kernel
theorem dX11_least_2 : decode cX11_least 2 = .ok (.getfield 347, 3) := by decide +kernel
theorem dX11_least_5 : decode cX11_least 5 = .ok (.ifCond .eq 12, 3) := by decide +kernel
theorem dX11_least_8 : decode cX11_least 8 = .ok (.lload_n 1, 1) := by decide +kernel
theorem dX11_least_9 : decode cX11_least 9 = .ok (.aload_n 0, 1) := by decide +kernel
theorem dX11_least_10 : decode cX11_least 10 = .ok (.getfield 350, 3) := by decide +kernel
theorem dX11_least_13 : decode cX11_least 13 = .ok (.lcmp, 1) := by decide +kernel
theorem dX11_least_14 : decode cX11_least 14 = .ok (.ifCond .ge 7, 3) := by decide +kernel
theorem dX11_least_17 : decode cX11_least 17 = .ok (.lload_n 1, 1) := by decide +kernel
theorem dX11_least_18 : decode cX11_least 18 = .ok (.goto 7, 3) := by decide +kernel
theorem dX11_least_21 : decode cX11_least 21 = .ok (.aload_n 0, 1) := by decide +kernel
theorem dX11_least_22 : decode cX11_least 22 = .ok (.getfield 350, 3) := by decide +kernel
theorem dX11_least_25 : decode cX11_least 25 = .ok (.putfield 350, 3) := by decide +kernel
theorem dX11_least_28 : decode cX11_least 28 = .ok (.aload_n 0, 1) := by decide +kernel
theorem dX11_least_29 : decode cX11_least 29 = .ok (.iconst 1, 1) := by decide +kernel
theorem dX11_least_30 : decode cX11_least 30 = .ok (.putfield 347, 3) := by decide +kernel
theorem dX11_least_33 : decode cX11_least 33 = .ok (.return_, 1) := by decide +kernel
theorem dX11_findGoal_0 : decode cX11_findGoal 0 = .ok (.aload_n 0, 1) := by decide +kernel
theorem dX11_findGoal_1 : decode cX11_findGoal 1 = .ok (.iconst 0, 1) := by decide +kernel
theorem dX11_findGoal_2 : decode cX11_findGoal 2 = .ok (.putfield 347, 3) := by decide +kernel
theorem dX11_findGoal_5 : decode cX11_findGoal 5 = .ok (.aload_n 0, 1) := by decide +kernel
theorem dX11_findGoal_6 : decode cX11_findGoal 6 = .ok (.iload_n 1, 1) := by decide +kernel
theorem dX11_findGoal_7 : decode cX11_findGoal 7 = .ok (.invokevirtual 308, 3) := by decide +kernel
theorem dX11_findGoal_10 : decode cX11_findGoal 10 = .ok (.tableswitch 152 0 4 #[34, 42, 152, 144, 42], 34) := by decide +kernel
theorem dX11_findGoal_44 : decode cX11_findGoal 44 = .ok (.aload_n 0, 1) := by decide +kernel
theorem dX11_findGoal_45 : decode cX11_findGoal 45 = .ok (.iload_n 1, 1) := by decide +kernel
theorem dX11_findGoal_46 : decode cX11_findGoal 46 = .ok (.invokevirtual 353, 3) := by decide +kernel
theorem dX11_findGoal_49 : decode cX11_findGoal 49 = .ok (.goto 177, 3) := by decide +kernel
theorem dX11_findGoal_52 : decode cX11_findGoal 52 = .ok (.iconst 1, 1) := by decide +kernel
theorem dX11_findGoal_53 : decode cX11_findGoal 53 = .ok (.istore_n 2, 1) := by decide +kernel
theorem dX11_findGoal_54 : decode cX11_findGoal 54 = .ok (.iconst 0, 1) := by decide +kernel
theorem dX11_findGoal_55 : decode cX11_findGoal 55 = .ok (.istore_n 3, 1) := by decide +kernel
theorem dX11_findGoal_56 : decode cX11_findGoal 56 = .ok (.iload_n 3, 1) := by decide +kernel
theorem dX11_findGoal_57 : decode cX11_findGoal 57 = .ok (.aload_n 0, 1) := by decide +kernel
theorem dX11_findGoal_58 : decode cX11_findGoal 58 = .ok (.getfield 45, 3) := by decide +kernel
theorem dX11_findGoal_61 : decode cX11_findGoal 61 = .ok (.bipush 12, 2) := by decide +kernel
theorem dX11_findGoal_63 : decode cX11_findGoal 63 = .ok (.iload_n 1, 1) := by decide +kernel
theorem dX11_findGoal_64 : decode cX11_findGoal 64 = .ok (.iadd, 1) := by decide +kernel
theorem dX11_findGoal_65 : decode cX11_findGoal 65 = .ok (.iaload, 1) := by decide +kernel
theorem dX11_findGoal_66 : decode cX11_findGoal 66 = .ok (.if_icmp .ge 74, 3) := by decide +kernel
theorem dX11_findGoal_69 : decode cX11_findGoal 69 = .ok (.aload_n 0, 1) := by decide +kernel
theorem dX11_findGoal_70 : decode cX11_findGoal 70 = .ok (.iload_n 1, 1) := by decide +kernel
theorem dX11_findGoal_71 : decode cX11_findGoal 71 = .ok (.iload_n 3, 1) := by decide +kernel
theorem dX11_findGoal_72 : decode cX11_findGoal 72 = .ok (.invokevirtual 318, 3) := by decide +kernel
theorem dX11_findGoal_75 : decode cX11_findGoal 75 = .ok (.istore 4, 2) := by decide +kernel
theorem dX11_findGoal_77 : decode cX11_findGoal 77 = .ok (.iload_n 2, 1) := by decide +kernel
theorem dX11_findGoal_78 : decode cX11_findGoal 78 = .ok (.aload_n 0, 1) := by decide +kernel
theorem dX11_findGoal_79 : decode cX11_findGoal 79 = .ok (.getfield 63, 3) := by decide +kernel
theorem dX11_findGoal_82 : decode cX11_findGoal 82 = .ok (.iload 4, 2) := by decide +kernel
theorem dX11_findGoal_84 : decode cX11_findGoal 84 = .ok (.laload, 1) := by decide +kernel
theorem dX11_findGoal_85 : decode cX11_findGoal 85 = .ok (.ldc2_w 298, 3) := by decide +kernel
theorem dX11_findGoal_88 : decode cX11_findGoal 88 = .ok (.lcmp, 1) := by decide +kernel
theorem dX11_findGoal_89 : decode cX11_findGoal 89 = .ok (.ifCond .ne 7, 3) := by decide +kernel
theorem dX11_findGoal_92 : decode cX11_findGoal 92 = .ok (.iconst 1, 1) := by decide +kernel
theorem dX11_findGoal_93 : decode cX11_findGoal 93 = .ok (.goto 4, 3) := by decide +kernel
theorem dX11_findGoal_96 : decode cX11_findGoal 96 = .ok (.iconst 0, 1) := by decide +kernel
theorem dX11_findGoal_97 : decode cX11_findGoal 97 = .ok (.iand, 1) := by decide +kernel
theorem dX11_findGoal_98 : decode cX11_findGoal 98 = .ok (.istore_n 2, 1) := by decide +kernel
theorem dX11_findGoal_99 : decode cX11_findGoal 99 = .ok (.aload_n 0, 1) := by decide +kernel
theorem dX11_findGoal_100 : decode cX11_findGoal 100 = .ok (.getfield 66, 3) := by decide +kernel
theorem dX11_findGoal_103 : decode cX11_findGoal 103 = .ok (.iload 4, 2) := by decide +kernel
theorem dX11_findGoal_105 : decode cX11_findGoal 105 = .ok (.baload, 1) := by decide +kernel
theorem dX11_findGoal_106 : decode cX11_findGoal 106 = .ok (.ifCond .ne 28, 3) := by decide +kernel
theorem dX11_findGoal_109 : decode cX11_findGoal 109 = .ok (.aload_n 0, 1) := by decide +kernel
theorem dX11_findGoal_110 : decode cX11_findGoal 110 = .ok (.getfield 63, 3) := by decide +kernel
theorem dX11_findGoal_113 : decode cX11_findGoal 113 = .ok (.iload 4, 2) := by decide +kernel
theorem dX11_findGoal_115 : decode cX11_findGoal 115 = .ok (.laload, 1) := by decide +kernel
theorem dX11_findGoal_116 : decode cX11_findGoal 116 = .ok (.ldc2_w 298, 3) := by decide +kernel
theorem dX11_findGoal_119 : decode cX11_findGoal 119 = .ok (.lcmp, 1) := by decide +kernel
theorem dX11_findGoal_120 : decode cX11_findGoal 120 = .ok (.ifCond .eq 14, 3) := by decide +kernel
theorem dX11_findGoal_123 : decode cX11_findGoal 123 = .ok (.aload_n 0, 1) := by decide +kernel
theorem dX11_findGoal_124 : decode cX11_findGoal 124 = .ok (.aload_n 0, 1) := by decide +kernel
theorem dX11_findGoal_125 : decode cX11_findGoal 125 = .ok (.getfield 63, 3) := by decide +kernel
theorem dX11_findGoal_128 : decode cX11_findGoal 128 = .ok (.iload 4, 2) := by decide +kernel
theorem dX11_findGoal_130 : decode cX11_findGoal 130 = .ok (.laload, 1) := by decide +kernel
theorem dX11_findGoal_131 : decode cX11_findGoal 131 = .ok (.invokevirtual 356, 3) := by decide +kernel
theorem dX11_findGoal_134 : decode cX11_findGoal 134 = .ok (.iinc 3 1, 3) := by decide +kernel
theorem dX11_findGoal_137 : decode cX11_findGoal 137 = .ok (.goto (-81), 3) := by decide +kernel
theorem dX11_findGoal_140 : decode cX11_findGoal 140 = .ok (.iload_n 2, 1) := by decide +kernel
theorem dX11_findGoal_141 : decode cX11_findGoal 141 = .ok (.ifCond .eq 85, 3) := by decide +kernel
theorem dX11_findGoal_144 : decode cX11_findGoal 144 = .ok (.aload_n 0, 1) := by decide +kernel
theorem dX11_findGoal_145 : decode cX11_findGoal 145 = .ok (.ldc2_w 298, 3) := by decide +kernel
theorem dX11_findGoal_148 : decode cX11_findGoal 148 = .ok (.invokevirtual 356, 3) := by decide +kernel
theorem dX11_findGoal_151 : decode cX11_findGoal 151 = .ok (.goto 75, 3) := by decide +kernel
theorem dX11_findGoal_154 : decode cX11_findGoal 154 = .ok (.aload_n 0, 1) := by decide +kernel
theorem dX11_findGoal_155 : decode cX11_findGoal 155 = .ok (.iload_n 1, 1) := by decide +kernel
theorem dX11_findGoal_156 : decode cX11_findGoal 156 = .ok (.invokevirtual 360, 3) := by decide +kernel
theorem dX11_findGoal_159 : decode cX11_findGoal 159 = .ok (.goto 67, 3) := by decide +kernel
theorem dX11_findGoal_162 : decode cX11_findGoal 162 = .ok (.aload_n 0, 1) := by decide +kernel
theorem dX11_findGoal_163 : decode cX11_findGoal 163 = .ok (.getfield 66, 3) := by decide +kernel
theorem dX11_findGoal_166 : decode cX11_findGoal 166 = .ok (.aload_n 0, 1) := by decide +kernel
theorem dX11_findGoal_167 : decode cX11_findGoal 167 = .ok (.iload_n 1, 1) := by decide +kernel
theorem dX11_findGoal_168 : decode cX11_findGoal 168 = .ok (.iconst 0, 1) := by decide +kernel
theorem dX11_findGoal_169 : decode cX11_findGoal 169 = .ok (.invokevirtual 318, 3) := by decide +kernel
theorem dX11_findGoal_172 : decode cX11_findGoal 172 = .ok (.baload, 1) := by decide +kernel
theorem dX11_findGoal_173 : decode cX11_findGoal 173 = .ok (.ifCond .ne 53, 3) := by decide +kernel
theorem dX11_findGoal_176 : decode cX11_findGoal 176 = .ok (.aload_n 0, 1) := by decide +kernel
theorem dX11_findGoal_177 : decode cX11_findGoal 177 = .ok (.aload_n 0, 1) := by decide +kernel
theorem dX11_findGoal_178 : decode cX11_findGoal 178 = .ok (.iload_n 1, 1) := by decide +kernel
theorem dX11_findGoal_179 : decode cX11_findGoal 179 = .ok (.invokevirtual 308, 3) := by decide +kernel
theorem dX11_findGoal_182 : decode cX11_findGoal 182 = .ok (.iconst 2, 1) := by decide +kernel
theorem dX11_findGoal_183 : decode cX11_findGoal 183 = .ok (.if_icmp .ne 29, 3) := by decide +kernel
theorem dX11_findGoal_186 : decode cX11_findGoal 186 = .ok (.aload_n 0, 1) := by decide +kernel
theorem dX11_findGoal_187 : decode cX11_findGoal 187 = .ok (.getfield 63, 3) := by decide +kernel
theorem dX11_findGoal_190 : decode cX11_findGoal 190 = .ok (.aload_n 0, 1) := by decide +kernel
theorem dX11_findGoal_191 : decode cX11_findGoal 191 = .ok (.iload_n 1, 1) := by decide +kernel
theorem dX11_findGoal_192 : decode cX11_findGoal 192 = .ok (.iconst 0, 1) := by decide +kernel
theorem dX11_findGoal_193 : decode cX11_findGoal 193 = .ok (.invokevirtual 318, 3) := by decide +kernel
theorem dX11_findGoal_196 : decode cX11_findGoal 196 = .ok (.laload, 1) := by decide +kernel
theorem dX11_findGoal_197 : decode cX11_findGoal 197 = .ok (.aload_n 0, 1) := by decide +kernel
theorem dX11_findGoal_198 : decode cX11_findGoal 198 = .ok (.getfield 33, 3) := by decide +kernel
theorem dX11_findGoal_201 : decode cX11_findGoal 201 = .ok (.bipush 12, 2) := by decide +kernel
theorem dX11_findGoal_203 : decode cX11_findGoal 203 = .ok (.iload_n 1, 1) := by decide +kernel
theorem dX11_findGoal_204 : decode cX11_findGoal 204 = .ok (.iadd, 1) := by decide +kernel
theorem dX11_findGoal_205 : decode cX11_findGoal 205 = .ok (.laload, 1) := by decide +kernel
theorem dX11_findGoal_206 : decode cX11_findGoal 206 = .ok (.invokestatic 311, 3) := by decide +kernel
theorem dX11_findGoal_209 : decode cX11_findGoal 209 = .ok (.goto 14, 3) := by decide +kernel
theorem dX11_findGoal_212 : decode cX11_findGoal 212 = .ok (.aload_n 0, 1) := by decide +kernel
theorem dX11_findGoal_213 : decode cX11_findGoal 213 = .ok (.getfield 63, 3) := by decide +kernel
theorem dX11_findGoal_216 : decode cX11_findGoal 216 = .ok (.aload_n 0, 1) := by decide +kernel
theorem dX11_findGoal_217 : decode cX11_findGoal 217 = .ok (.iload_n 1, 1) := by decide +kernel
theorem dX11_findGoal_218 : decode cX11_findGoal 218 = .ok (.iconst 0, 1) := by decide +kernel
theorem dX11_findGoal_219 : decode cX11_findGoal 219 = .ok (.invokevirtual 318, 3) := by decide +kernel
theorem dX11_findGoal_222 : decode cX11_findGoal 222 = .ok (.laload, 1) := by decide +kernel
theorem dX11_findGoal_223 : decode cX11_findGoal 223 = .ok (.invokevirtual 356, 3) := by decide +kernel
theorem dX11_findGoal_226 : decode cX11_findGoal 226 = .ok (.return_, 1) := by decide +kernel
theorem dX11_sourceGoal_0 : decode cX11_sourceGoal 0 = .ok (.iconst 1, 1) := by decide +kernel
theorem dX11_sourceGoal_1 : decode cX11_sourceGoal 1 = .ok (.istore_n 2, 1) := by decide +kernel
theorem dX11_sourceGoal_2 : decode cX11_sourceGoal 2 = .ok (.iconst 0, 1) := by decide +kernel
theorem dX11_sourceGoal_3 : decode cX11_sourceGoal 3 = .ok (.istore_n 3, 1) := by decide +kernel
theorem dX11_sourceGoal_4 : decode cX11_sourceGoal 4 = .ok (.iload_n 3, 1) := by decide +kernel
theorem dX11_sourceGoal_5 : decode cX11_sourceGoal 5 = .ok (.aload_n 0, 1) := by decide +kernel
theorem dX11_sourceGoal_6 : decode cX11_sourceGoal 6 = .ok (.getfield 26, 3) := by decide +kernel
theorem dX11_sourceGoal_9 : decode cX11_sourceGoal 9 = .ok (.bipush 12, 2) := by decide +kernel
theorem dX11_sourceGoal_11 : decode cX11_sourceGoal 11 = .ok (.iload_n 1, 1) := by decide +kernel
theorem dX11_sourceGoal_12 : decode cX11_sourceGoal 12 = .ok (.iadd, 1) := by decide +kernel
theorem dX11_sourceGoal_13 : decode cX11_sourceGoal 13 = .ok (.iaload, 1) := by decide +kernel
theorem dX11_sourceGoal_14 : decode cX11_sourceGoal 14 = .ok (.if_icmp .ge 58, 3) := by decide +kernel
theorem dX11_sourceGoal_17 : decode cX11_sourceGoal 17 = .ok (.iload_n 2, 1) := by decide +kernel
theorem dX11_sourceGoal_18 : decode cX11_sourceGoal 18 = .ok (.aload_n 0, 1) := by decide +kernel
theorem dX11_sourceGoal_19 : decode cX11_sourceGoal 19 = .ok (.getfield 69, 3) := by decide +kernel
theorem dX11_sourceGoal_22 : decode cX11_sourceGoal 22 = .ok (.iconst 4, 1) := by decide +kernel
theorem dX11_sourceGoal_23 : decode cX11_sourceGoal 23 = .ok (.iload_n 1, 1) := by decide +kernel
theorem dX11_sourceGoal_24 : decode cX11_sourceGoal 24 = .ok (.imul, 1) := by decide +kernel
theorem dX11_sourceGoal_25 : decode cX11_sourceGoal 25 = .ok (.iload_n 3, 1) := by decide +kernel
theorem dX11_sourceGoal_26 : decode cX11_sourceGoal 26 = .ok (.iadd, 1) := by decide +kernel
theorem dX11_sourceGoal_27 : decode cX11_sourceGoal 27 = .ok (.iaload, 1) := by decide +kernel
theorem dX11_sourceGoal_28 : decode cX11_sourceGoal 28 = .ok (.iconst 2, 1) := by decide +kernel
theorem dX11_sourceGoal_29 : decode cX11_sourceGoal 29 = .ok (.if_icmp .ne 7, 3) := by decide +kernel
theorem dX11_sourceGoal_32 : decode cX11_sourceGoal 32 = .ok (.iconst 1, 1) := by decide +kernel
theorem dX11_sourceGoal_33 : decode cX11_sourceGoal 33 = .ok (.goto 4, 3) := by decide +kernel
theorem dX11_sourceGoal_36 : decode cX11_sourceGoal 36 = .ok (.iconst 0, 1) := by decide +kernel
theorem dX11_sourceGoal_37 : decode cX11_sourceGoal 37 = .ok (.iand, 1) := by decide +kernel
theorem dX11_sourceGoal_38 : decode cX11_sourceGoal 38 = .ok (.istore_n 2, 1) := by decide +kernel
theorem dX11_sourceGoal_39 : decode cX11_sourceGoal 39 = .ok (.aload_n 0, 1) := by decide +kernel
theorem dX11_sourceGoal_40 : decode cX11_sourceGoal 40 = .ok (.getfield 69, 3) := by decide +kernel
theorem dX11_sourceGoal_43 : decode cX11_sourceGoal 43 = .ok (.iconst 4, 1) := by decide +kernel
theorem dX11_sourceGoal_44 : decode cX11_sourceGoal 44 = .ok (.iload_n 1, 1) := by decide +kernel
theorem dX11_sourceGoal_45 : decode cX11_sourceGoal 45 = .ok (.imul, 1) := by decide +kernel
theorem dX11_sourceGoal_46 : decode cX11_sourceGoal 46 = .ok (.iload_n 3, 1) := by decide +kernel
theorem dX11_sourceGoal_47 : decode cX11_sourceGoal 47 = .ok (.iadd, 1) := by decide +kernel
theorem dX11_sourceGoal_48 : decode cX11_sourceGoal 48 = .ok (.iaload, 1) := by decide +kernel
theorem dX11_sourceGoal_49 : decode cX11_sourceGoal 49 = .ok (.ifCond .ne 17, 3) := by decide +kernel
theorem dX11_sourceGoal_52 : decode cX11_sourceGoal 52 = .ok (.aload_n 0, 1) := by decide +kernel
theorem dX11_sourceGoal_53 : decode cX11_sourceGoal 53 = .ok (.aload_n 0, 1) := by decide +kernel
theorem dX11_sourceGoal_54 : decode cX11_sourceGoal 54 = .ok (.getfield 72, 3) := by decide +kernel
theorem dX11_sourceGoal_57 : decode cX11_sourceGoal 57 = .ok (.iconst 4, 1) := by decide +kernel
theorem dX11_sourceGoal_58 : decode cX11_sourceGoal 58 = .ok (.iload_n 1, 1) := by decide +kernel
theorem dX11_sourceGoal_59 : decode cX11_sourceGoal 59 = .ok (.imul, 1) := by decide +kernel
theorem dX11_sourceGoal_60 : decode cX11_sourceGoal 60 = .ok (.iload_n 3, 1) := by decide +kernel
theorem dX11_sourceGoal_61 : decode cX11_sourceGoal 61 = .ok (.iadd, 1) := by decide +kernel
theorem dX11_sourceGoal_62 : decode cX11_sourceGoal 62 = .ok (.laload, 1) := by decide +kernel
theorem dX11_sourceGoal_63 : decode cX11_sourceGoal 63 = .ok (.invokevirtual 356, 3) := by decide +kernel
theorem dX11_sourceGoal_66 : decode cX11_sourceGoal 66 = .ok (.iinc 3 1, 3) := by decide +kernel
theorem dX11_sourceGoal_69 : decode cX11_sourceGoal 69 = .ok (.goto (-65), 3) := by decide +kernel
theorem dX11_sourceGoal_72 : decode cX11_sourceGoal 72 = .ok (.iload_n 2, 1) := by decide +kernel
theorem dX11_sourceGoal_73 : decode cX11_sourceGoal 73 = .ok (.ifCond .eq 10, 3) := by decide +kernel
theorem dX11_sourceGoal_76 : decode cX11_sourceGoal 76 = .ok (.aload_n 0, 1) := by decide +kernel
theorem dX11_sourceGoal_77 : decode cX11_sourceGoal 77 = .ok (.ldc2_w 298, 3) := by decide +kernel
theorem dX11_sourceGoal_80 : decode cX11_sourceGoal 80 = .ok (.invokevirtual 356, 3) := by decide +kernel
theorem dX11_sourceGoal_83 : decode cX11_sourceGoal 83 = .ok (.return_, 1) := by decide +kernel
theorem dX11_holdGoal_0 : decode cX11_holdGoal 0 = .ok (.aload_n 0, 1) := by decide +kernel
theorem dX11_holdGoal_1 : decode cX11_holdGoal 1 = .ok (.iload_n 1, 1) := by decide +kernel
theorem dX11_holdGoal_2 : decode cX11_holdGoal 2 = .ok (.iconst 0, 1) := by decide +kernel
theorem dX11_holdGoal_3 : decode cX11_holdGoal 3 = .ok (.invokevirtual 318, 3) := by decide +kernel
theorem dX11_holdGoal_6 : decode cX11_holdGoal 6 = .ok (.istore_n 2, 1) := by decide +kernel
theorem dX11_holdGoal_7 : decode cX11_holdGoal 7 = .ok (.iconst 0, 1) := by decide +kernel
theorem dX11_holdGoal_8 : decode cX11_holdGoal 8 = .ok (.istore_n 3, 1) := by decide +kernel
theorem dX11_holdGoal_9 : decode cX11_holdGoal 9 = .ok (.iload_n 3, 1) := by decide +kernel
theorem dX11_holdGoal_10 : decode cX11_holdGoal 10 = .ok (.aload_n 0, 1) := by decide +kernel
theorem dX11_holdGoal_11 : decode cX11_holdGoal 11 = .ok (.getfield 295, 3) := by decide +kernel
theorem dX11_holdGoal_14 : decode cX11_holdGoal 14 = .ok (.if_icmp .ge 44, 3) := by decide +kernel
theorem dX11_holdGoal_17 : decode cX11_holdGoal 17 = .ok (.aload_n 0, 1) := by decide +kernel
theorem dX11_holdGoal_18 : decode cX11_holdGoal 18 = .ok (.getfield 114, 3) := by decide +kernel
theorem dX11_holdGoal_21 : decode cX11_holdGoal 21 = .ok (.iload_n 3, 1) := by decide +kernel
theorem dX11_holdGoal_22 : decode cX11_holdGoal 22 = .ok (.baload, 1) := by decide +kernel
theorem dX11_holdGoal_23 : decode cX11_holdGoal 23 = .ok (.ifCond .eq 29, 3) := by decide +kernel
theorem dX11_holdGoal_26 : decode cX11_holdGoal 26 = .ok (.aload_n 0, 1) := by decide +kernel
theorem dX11_holdGoal_27 : decode cX11_holdGoal 27 = .ok (.getfield 108, 3) := by decide +kernel
theorem dX11_holdGoal_30 : decode cX11_holdGoal 30 = .ok (.iload_n 3, 1) := by decide +kernel
theorem dX11_holdGoal_31 : decode cX11_holdGoal 31 = .ok (.iaload, 1) := by decide +kernel
theorem dX11_holdGoal_32 : decode cX11_holdGoal 32 = .ok (.iload_n 1, 1) := by decide +kernel
theorem dX11_holdGoal_33 : decode cX11_holdGoal 33 = .ok (.if_icmp .ne 19, 3) := by decide +kernel
theorem dX11_holdGoal_36 : decode cX11_holdGoal 36 = .ok (.aload_n 0, 1) := by decide +kernel
theorem dX11_holdGoal_37 : decode cX11_holdGoal 37 = .ok (.aload_n 0, 1) := by decide +kernel
theorem dX11_holdGoal_38 : decode cX11_holdGoal 38 = .ok (.getfield 111, 3) := by decide +kernel
theorem dX11_holdGoal_41 : decode cX11_holdGoal 41 = .ok (.iload_n 3, 1) := by decide +kernel
theorem dX11_holdGoal_42 : decode cX11_holdGoal 42 = .ok (.laload, 1) := by decide +kernel
theorem dX11_holdGoal_43 : decode cX11_holdGoal 43 = .ok (.ldc2_w 363, 3) := by decide +kernel
theorem dX11_holdGoal_46 : decode cX11_holdGoal 46 = .ok (.invokestatic 311, 3) := by decide +kernel
theorem dX11_holdGoal_49 : decode cX11_holdGoal 49 = .ok (.invokevirtual 356, 3) := by decide +kernel
theorem dX11_holdGoal_52 : decode cX11_holdGoal 52 = .ok (.iinc 3 1, 3) := by decide +kernel
theorem dX11_holdGoal_55 : decode cX11_holdGoal 55 = .ok (.goto (-46), 3) := by decide +kernel
theorem dX11_holdGoal_58 : decode cX11_holdGoal 58 = .ok (.aload_n 0, 1) := by decide +kernel
theorem dX11_holdGoal_59 : decode cX11_holdGoal 59 = .ok (.getfield 347, 3) := by decide +kernel
theorem dX11_holdGoal_62 : decode cX11_holdGoal 62 = .ok (.ifCond .eq 34, 3) := by decide +kernel
theorem dX11_holdGoal_65 : decode cX11_holdGoal 65 = .ok (.aload_n 0, 1) := by decide +kernel
theorem dX11_holdGoal_66 : decode cX11_holdGoal 66 = .ok (.aload_n 0, 1) := by decide +kernel
theorem dX11_holdGoal_67 : decode cX11_holdGoal 67 = .ok (.getfield 66, 3) := by decide +kernel
theorem dX11_holdGoal_70 : decode cX11_holdGoal 70 = .ok (.iload_n 2, 1) := by decide +kernel
theorem dX11_holdGoal_71 : decode cX11_holdGoal 71 = .ok (.baload, 1) := by decide +kernel
theorem dX11_holdGoal_72 : decode cX11_holdGoal 72 = .ok (.ifCond .eq 12, 3) := by decide +kernel
theorem dX11_holdGoal_75 : decode cX11_holdGoal 75 = .ok (.aload_n 0, 1) := by decide +kernel
theorem dX11_holdGoal_76 : decode cX11_holdGoal 76 = .ok (.getfield 63, 3) := by decide +kernel
theorem dX11_holdGoal_79 : decode cX11_holdGoal 79 = .ok (.iload_n 1, 1) := by decide +kernel
theorem dX11_holdGoal_80 : decode cX11_holdGoal 80 = .ok (.laload, 1) := by decide +kernel
theorem dX11_holdGoal_81 : decode cX11_holdGoal 81 = .ok (.goto 9, 3) := by decide +kernel
theorem dX11_holdGoal_84 : decode cX11_holdGoal 84 = .ok (.aload_n 0, 1) := by decide +kernel
theorem dX11_holdGoal_85 : decode cX11_holdGoal 85 = .ok (.getfield 63, 3) := by decide +kernel
theorem dX11_holdGoal_88 : decode cX11_holdGoal 88 = .ok (.iload_n 2, 1) := by decide +kernel
theorem dX11_holdGoal_89 : decode cX11_holdGoal 89 = .ok (.laload, 1) := by decide +kernel
theorem dX11_holdGoal_90 : decode cX11_holdGoal 90 = .ok (.invokevirtual 356, 3) := by decide +kernel
theorem dX11_holdGoal_93 : decode cX11_holdGoal 93 = .ok (.goto 22, 3) := by decide +kernel
theorem dX11_holdGoal_96 : decode cX11_holdGoal 96 = .ok (.aload_n 0, 1) := by decide +kernel
theorem dX11_holdGoal_97 : decode cX11_holdGoal 97 = .ok (.getfield 66, 3) := by decide +kernel
theorem dX11_holdGoal_100 : decode cX11_holdGoal 100 = .ok (.iload_n 2, 1) := by decide +kernel
theorem dX11_holdGoal_101 : decode cX11_holdGoal 101 = .ok (.baload, 1) := by decide +kernel
theorem dX11_holdGoal_102 : decode cX11_holdGoal 102 = .ok (.ifCond .ne 13, 3) := by decide +kernel
theorem dX11_holdGoal_105 : decode cX11_holdGoal 105 = .ok (.aload_n 0, 1) := by decide +kernel
theorem dX11_holdGoal_106 : decode cX11_holdGoal 106 = .ok (.aload_n 0, 1) := by decide +kernel
theorem dX11_holdGoal_107 : decode cX11_holdGoal 107 = .ok (.getfield 63, 3) := by decide +kernel
theorem dX11_holdGoal_110 : decode cX11_holdGoal 110 = .ok (.iload_n 2, 1) := by decide +kernel
theorem dX11_holdGoal_111 : decode cX11_holdGoal 111 = .ok (.laload, 1) := by decide +kernel
theorem dX11_holdGoal_112 : decode cX11_holdGoal 112 = .ok (.invokevirtual 356, 3) := by decide +kernel
theorem dX11_holdGoal_115 : decode cX11_holdGoal 115 = .ok (.return_, 1) := by decide +kernel
theorem dX11_reckon_0 : decode cX11_reckon 0 = .ok (.iconst 0, 1) := by decide +kernel
theorem dX11_reckon_1 : decode cX11_reckon 1 = .ok (.istore_n 1, 1) := by decide +kernel
theorem dX11_reckon_2 : decode cX11_reckon 2 = .ok (.iload_n 1, 1) := by decide +kernel
theorem dX11_reckon_3 : decode cX11_reckon 3 = .ok (.aload_n 0, 1) := by decide +kernel
theorem dX11_reckon_4 : decode cX11_reckon 4 = .ok (.getfield 60, 3) := by decide +kernel
theorem dX11_reckon_7 : decode cX11_reckon 7 = .ok (.iconst 1, 1) := by decide +kernel
theorem dX11_reckon_8 : decode cX11_reckon 8 = .ok (.iaload, 1) := by decide +kernel
theorem dX11_reckon_9 : decode cX11_reckon 9 = .ok (.if_icmp .ge 165, 3) := by decide +kernel
theorem dX11_reckon_12 : decode cX11_reckon 12 = .ok (.aload_n 0, 1) := by decide +kernel
theorem dX11_reckon_13 : decode cX11_reckon 13 = .ok (.iload_n 1, 1) := by decide +kernel
theorem dX11_reckon_14 : decode cX11_reckon 14 = .ok (.invokevirtual 365, 3) := by decide +kernel
theorem dX11_reckon_17 : decode cX11_reckon 17 = .ok (.aload_n 0, 1) := by decide +kernel
theorem dX11_reckon_18 : decode cX11_reckon 18 = .ok (.getfield 66, 3) := by decide +kernel
theorem dX11_reckon_21 : decode cX11_reckon 21 = .ok (.iload_n 1, 1) := by decide +kernel
theorem dX11_reckon_22 : decode cX11_reckon 22 = .ok (.aload_n 0, 1) := by decide +kernel
theorem dX11_reckon_23 : decode cX11_reckon 23 = .ok (.getfield 347, 3) := by decide +kernel
theorem dX11_reckon_26 : decode cX11_reckon 26 = .ok (.ifCond .ne 7, 3) := by decide +kernel
theorem dX11_reckon_29 : decode cX11_reckon 29 = .ok (.iconst 1, 1) := by decide +kernel
theorem dX11_reckon_30 : decode cX11_reckon 30 = .ok (.goto 4, 3) := by decide +kernel
theorem dX11_reckon_33 : decode cX11_reckon 33 = .ok (.iconst 0, 1) := by decide +kernel
theorem dX11_reckon_34 : decode cX11_reckon 34 = .ok (.bastore, 1) := by decide +kernel
theorem dX11_reckon_35 : decode cX11_reckon 35 = .ok (.aload_n 0, 1) := by decide +kernel
theorem dX11_reckon_36 : decode cX11_reckon 36 = .ok (.getfield 63, 3) := by decide +kernel
theorem dX11_reckon_39 : decode cX11_reckon 39 = .ok (.iload_n 1, 1) := by decide +kernel
theorem dX11_reckon_40 : decode cX11_reckon 40 = .ok (.aload_n 0, 1) := by decide +kernel
theorem dX11_reckon_41 : decode cX11_reckon 41 = .ok (.getfield 347, 3) := by decide +kernel
theorem dX11_reckon_44 : decode cX11_reckon 44 = .ok (.ifCond .eq 24, 3) := by decide +kernel
theorem dX11_reckon_47 : decode cX11_reckon 47 = .ok (.aload_n 0, 1) := by decide +kernel
theorem dX11_reckon_48 : decode cX11_reckon 48 = .ok (.getfield 350, 3) := by decide +kernel
theorem dX11_reckon_51 : decode cX11_reckon 51 = .ok (.aload_n 0, 1) := by decide +kernel
theorem dX11_reckon_52 : decode cX11_reckon 52 = .ok (.getfield 63, 3) := by decide +kernel
theorem dX11_reckon_55 : decode cX11_reckon 55 = .ok (.iload_n 1, 1) := by decide +kernel
theorem dX11_reckon_56 : decode cX11_reckon 56 = .ok (.laload, 1) := by decide +kernel
theorem dX11_reckon_57 : decode cX11_reckon 57 = .ok (.lcmp, 1) := by decide +kernel
theorem dX11_reckon_58 : decode cX11_reckon 58 = .ok (.ifCond .le 10, 3) := by decide +kernel
theorem dX11_reckon_61 : decode cX11_reckon 61 = .ok (.aload_n 0, 1) := by decide +kernel
theorem dX11_reckon_62 : decode cX11_reckon 62 = .ok (.getfield 350, 3) := by decide +kernel
theorem dX11_reckon_65 : decode cX11_reckon 65 = .ok (.goto 9, 3) := by decide +kernel
theorem dX11_reckon_68 : decode cX11_reckon 68 = .ok (.aload_n 0, 1) := by decide +kernel
theorem dX11_reckon_69 : decode cX11_reckon 69 = .ok (.getfield 63, 3) := by decide +kernel
theorem dX11_reckon_72 : decode cX11_reckon 72 = .ok (.iload_n 1, 1) := by decide +kernel
theorem dX11_reckon_73 : decode cX11_reckon 73 = .ok (.laload, 1) := by decide +kernel
theorem dX11_reckon_74 : decode cX11_reckon 74 = .ok (.lastore, 1) := by decide +kernel
theorem dX11_reckon_75 : decode cX11_reckon 75 = .ok (.aload_n 0, 1) := by decide +kernel
theorem dX11_reckon_76 : decode cX11_reckon 76 = .ok (.iload_n 1, 1) := by decide +kernel
theorem dX11_reckon_77 : decode cX11_reckon 77 = .ok (.invokevirtual 308, 3) := by decide +kernel
theorem dX11_reckon_80 : decode cX11_reckon 80 = .ok (.iconst 5, 1) := by decide +kernel
theorem dX11_reckon_81 : decode cX11_reckon 81 = .ok (.if_icmp .ne 8, 3) := by decide +kernel
theorem dX11_reckon_84 : decode cX11_reckon 84 = .ok (.aload_n 0, 1) := by decide +kernel
theorem dX11_reckon_85 : decode cX11_reckon 85 = .ok (.iload_n 1, 1) := by decide +kernel
theorem dX11_reckon_86 : decode cX11_reckon 86 = .ok (.invokevirtual 368, 3) := by decide +kernel
theorem dX11_reckon_89 : decode cX11_reckon 89 = .ok (.iconst 0, 1) := by decide +kernel
theorem dX11_reckon_90 : decode cX11_reckon 90 = .ok (.istore_n 2, 1) := by decide +kernel
theorem dX11_reckon_91 : decode cX11_reckon 91 = .ok (.iload_n 2, 1) := by decide +kernel
theorem dX11_reckon_92 : decode cX11_reckon 92 = .ok (.iconst 2, 1) := by decide +kernel
theorem dX11_reckon_93 : decode cX11_reckon 93 = .ok (.if_icmp .ge 75, 3) := by decide +kernel
theorem dX11_reckon_96 : decode cX11_reckon 96 = .ok (.aload_n 0, 1) := by decide +kernel
theorem dX11_reckon_97 : decode cX11_reckon 97 = .ok (.iload_n 1, 1) := by decide +kernel
theorem dX11_reckon_98 : decode cX11_reckon 98 = .ok (.invokevirtual 308, 3) := by decide +kernel
theorem dX11_reckon_101 : decode cX11_reckon 101 = .ok (.iconst 4, 1) := by decide +kernel
theorem dX11_reckon_102 : decode cX11_reckon 102 = .ok (.if_icmp .ne 66, 3) := by decide +kernel
theorem dX11_reckon_105 : decode cX11_reckon 105 = .ok (.aload_n 0, 1) := by decide +kernel
theorem dX11_reckon_106 : decode cX11_reckon 106 = .ok (.getfield 96, 3) := by decide +kernel
theorem dX11_reckon_109 : decode cX11_reckon 109 = .ok (.iconst 2, 1) := by decide +kernel
theorem dX11_reckon_110 : decode cX11_reckon 110 = .ok (.iload_n 1, 1) := by decide +kernel
theorem dX11_reckon_111 : decode cX11_reckon 111 = .ok (.imul, 1) := by decide +kernel
theorem dX11_reckon_112 : decode cX11_reckon 112 = .ok (.iload_n 2, 1) := by decide +kernel
theorem dX11_reckon_113 : decode cX11_reckon 113 = .ok (.iadd, 1) := by decide +kernel
theorem dX11_reckon_114 : decode cX11_reckon 114 = .ok (.iaload, 1) := by decide +kernel
theorem dX11_reckon_115 : decode cX11_reckon 115 = .ok (.iconst 1, 1) := by decide +kernel
theorem dX11_reckon_116 : decode cX11_reckon 116 = .ok (.isub, 1) := by decide +kernel
theorem dX11_reckon_117 : decode cX11_reckon 117 = .ok (.istore_n 3, 1) := by decide +kernel
theorem dX11_reckon_118 : decode cX11_reckon 118 = .ok (.iload_n 3, 1) := by decide +kernel
theorem dX11_reckon_119 : decode cX11_reckon 119 = .ok (.ifCond .lt 43, 3) := by decide +kernel
theorem dX11_reckon_122 : decode cX11_reckon 122 = .ok (.aload_n 0, 1) := by decide +kernel
theorem dX11_reckon_123 : decode cX11_reckon 123 = .ok (.iload_n 1, 1) := by decide +kernel
theorem dX11_reckon_124 : decode cX11_reckon 124 = .ok (.iload_n 2, 1) := by decide +kernel
theorem dX11_reckon_125 : decode cX11_reckon 125 = .ok (.aload_n 0, 1) := by decide +kernel
theorem dX11_reckon_126 : decode cX11_reckon 126 = .ok (.getfield 99, 3) := by decide +kernel
theorem dX11_reckon_129 : decode cX11_reckon 129 = .ok (.bipush 6, 2) := by decide +kernel
theorem dX11_reckon_131 : decode cX11_reckon 131 = .ok (.iconst 2, 1) := by decide +kernel
theorem dX11_reckon_132 : decode cX11_reckon 132 = .ok (.iload_n 1, 1) := by decide +kernel
theorem dX11_reckon_133 : decode cX11_reckon 133 = .ok (.imul, 1) := by decide +kernel
theorem dX11_reckon_134 : decode cX11_reckon 134 = .ok (.iload_n 2, 1) := by decide +kernel
theorem dX11_reckon_135 : decode cX11_reckon 135 = .ok (.iadd, 1) := by decide +kernel
theorem dX11_reckon_136 : decode cX11_reckon 136 = .ok (.imul, 1) := by decide +kernel
theorem dX11_reckon_137 : decode cX11_reckon 137 = .ok (.iload_n 3, 1) := by decide +kernel
theorem dX11_reckon_138 : decode cX11_reckon 138 = .ok (.iadd, 1) := by decide +kernel
theorem dX11_reckon_139 : decode cX11_reckon 139 = .ok (.laload, 1) := by decide +kernel
theorem dX11_reckon_140 : decode cX11_reckon 140 = .ok (.invokevirtual 339, 3) := by decide +kernel
theorem dX11_reckon_143 : decode cX11_reckon 143 = .ok (.ifCond .eq 13, 3) := by decide +kernel
theorem dX11_reckon_146 : decode cX11_reckon 146 = .ok (.aload_n 0, 1) := by decide +kernel
theorem dX11_reckon_147 : decode cX11_reckon 147 = .ok (.iconst 2, 1) := by decide +kernel
theorem dX11_reckon_148 : decode cX11_reckon 148 = .ok (.iload_n 1, 1) := by decide +kernel
theorem dX11_reckon_149 : decode cX11_reckon 149 = .ok (.imul, 1) := by decide +kernel
theorem dX11_reckon_150 : decode cX11_reckon 150 = .ok (.iload_n 2, 1) := by decide +kernel
theorem dX11_reckon_151 : decode cX11_reckon 151 = .ok (.iadd, 1) := by decide +kernel
theorem dX11_reckon_152 : decode cX11_reckon 152 = .ok (.iload_n 3, 1) := by decide +kernel
theorem dX11_reckon_153 : decode cX11_reckon 153 = .ok (.invokevirtual 343, 3) := by decide +kernel
theorem dX11_reckon_156 : decode cX11_reckon 156 = .ok (.iinc 3 (-1), 3) := by decide +kernel
theorem dX11_reckon_159 : decode cX11_reckon 159 = .ok (.goto (-41), 3) := by decide +kernel
theorem dX11_reckon_162 : decode cX11_reckon 162 = .ok (.iinc 2 1, 3) := by decide +kernel
theorem dX11_reckon_165 : decode cX11_reckon 165 = .ok (.goto (-74), 3) := by decide +kernel
theorem dX11_reckon_168 : decode cX11_reckon 168 = .ok (.iinc 1 1, 3) := by decide +kernel
theorem dX11_reckon_171 : decode cX11_reckon 171 = .ok (.goto (-169), 3) := by decide +kernel
theorem dX11_reckon_174 : decode cX11_reckon 174 = .ok (.return_, 1) := by decide +kernel
theorem dX11_close_0 : decode cX11_close 0 = .ok (.iconst (-1), 1) := by decide +kernel
theorem dX11_close_1 : decode cX11_close 1 = .ok (.istore_n 2, 1) := by decide +kernel
theorem dX11_close_2 : decode cX11_close 2 = .ok (.bipush 24, 2) := by decide +kernel
theorem dX11_close_4 : decode cX11_close 4 = .ok (.iload_n 1, 1) := by decide +kernel
theorem dX11_close_5 : decode cX11_close 5 = .ok (.imul, 1) := by decide +kernel
theorem dX11_close_6 : decode cX11_close 6 = .ok (.istore_n 3, 1) := by decide +kernel
theorem dX11_close_7 : decode cX11_close 7 = .ok (.iload_n 3, 1) := by decide +kernel
theorem dX11_close_8 : decode cX11_close 8 = .ok (.bipush 24, 2) := by decide +kernel
theorem dX11_close_10 : decode cX11_close 10 = .ok (.iload_n 1, 1) := by decide +kernel
theorem dX11_close_11 : decode cX11_close 11 = .ok (.imul, 1) := by decide +kernel
theorem dX11_close_12 : decode cX11_close 12 = .ok (.aload_n 0, 1) := by decide +kernel
theorem dX11_close_13 : decode cX11_close 13 = .ok (.getfield 84, 3) := by decide +kernel
theorem dX11_close_16 : decode cX11_close 16 = .ok (.iload_n 1, 1) := by decide +kernel
theorem dX11_close_17 : decode cX11_close 17 = .ok (.iaload, 1) := by decide +kernel
theorem dX11_close_18 : decode cX11_close 18 = .ok (.iadd, 1) := by decide +kernel
theorem dX11_close_19 : decode cX11_close 19 = .ok (.if_icmp .ge 104, 3) := by decide +kernel
theorem dX11_close_22 : decode cX11_close 22 = .ok (.aload_n 0, 1) := by decide +kernel
theorem dX11_close_23 : decode cX11_close 23 = .ok (.getfield 87, 3) := by decide +kernel
theorem dX11_close_26 : decode cX11_close 26 = .ok (.iload_n 3, 1) := by decide +kernel
theorem dX11_close_27 : decode cX11_close 27 = .ok (.laload, 1) := by decide +kernel
theorem dX11_close_28 : decode cX11_close 28 = .ok (.aload_n 0, 1) := by decide +kernel
theorem dX11_close_29 : decode cX11_close 29 = .ok (.getfield 33, 3) := by decide +kernel
theorem dX11_close_32 : decode cX11_close 32 = .ok (.bipush 12, 2) := by decide +kernel
theorem dX11_close_34 : decode cX11_close 34 = .ok (.iload_n 1, 1) := by decide +kernel
theorem dX11_close_35 : decode cX11_close 35 = .ok (.iadd, 1) := by decide +kernel
theorem dX11_close_36 : decode cX11_close 36 = .ok (.laload, 1) := by decide +kernel
theorem dX11_close_37 : decode cX11_close 37 = .ok (.lconst 1, 1) := by decide +kernel
theorem dX11_close_38 : decode cX11_close 38 = .ok (.lsub, 1) := by decide +kernel
theorem dX11_close_39 : decode cX11_close 39 = .ok (.invokestatic 311, 3) := by decide +kernel
theorem dX11_close_42 : decode cX11_close 42 = .ok (.aload_n 0, 1) := by decide +kernel
theorem dX11_close_43 : decode cX11_close 43 = .ok (.getfield 63, 3) := by decide +kernel
theorem dX11_close_46 : decode cX11_close 46 = .ok (.iload_n 1, 1) := by decide +kernel
theorem dX11_close_47 : decode cX11_close 47 = .ok (.laload, 1) := by decide +kernel
theorem dX11_close_48 : decode cX11_close 48 = .ok (.lcmp, 1) := by decide +kernel
theorem dX11_close_49 : decode cX11_close 49 = .ok (.ifCond .gt 7, 3) := by decide +kernel
theorem dX11_close_52 : decode cX11_close 52 = .ok (.iconst 1, 1) := by decide +kernel
theorem dX11_close_53 : decode cX11_close 53 = .ok (.goto 4, 3) := by decide +kernel
theorem dX11_close_56 : decode cX11_close 56 = .ok (.iconst 0, 1) := by decide +kernel
theorem dX11_close_57 : decode cX11_close 57 = .ok (.istore 4, 2) := by decide +kernel
theorem dX11_close_59 : decode cX11_close 59 = .ok (.iload 4, 2) := by decide +kernel
theorem dX11_close_61 : decode cX11_close 61 = .ok (.ifCond .eq 56, 3) := by decide +kernel
theorem dX11_close_64 : decode cX11_close 64 = .ok (.iload_n 2, 1) := by decide +kernel
theorem dX11_close_65 : decode cX11_close 65 = .ok (.ifCond .lt 50, 3) := by decide +kernel
theorem dX11_close_68 : decode cX11_close 68 = .ok (.aload_n 0, 1) := by decide +kernel
theorem dX11_close_69 : decode cX11_close 69 = .ok (.getfield 87, 3) := by decide +kernel
theorem dX11_close_72 : decode cX11_close 72 = .ok (.iload_n 3, 1) := by decide +kernel
theorem dX11_close_73 : decode cX11_close 73 = .ok (.laload, 1) := by decide +kernel
theorem dX11_close_74 : decode cX11_close 74 = .ok (.aload_n 0, 1) := by decide +kernel
theorem dX11_close_75 : decode cX11_close 75 = .ok (.getfield 87, 3) := by decide +kernel
theorem dX11_close_78 : decode cX11_close 78 = .ok (.iload_n 2, 1) := by decide +kernel
theorem dX11_close_79 : decode cX11_close 79 = .ok (.laload, 1) := by decide +kernel
theorem dX11_close_80 : decode cX11_close 80 = .ok (.lcmp, 1) := by decide +kernel
theorem dX11_close_81 : decode cX11_close 81 = .ok (.ifCond .lt 34, 3) := by decide +kernel
theorem dX11_close_84 : decode cX11_close 84 = .ok (.aload_n 0, 1) := by decide +kernel
theorem dX11_close_85 : decode cX11_close 85 = .ok (.getfield 87, 3) := by decide +kernel
theorem dX11_close_88 : decode cX11_close 88 = .ok (.iload_n 3, 1) := by decide +kernel
theorem dX11_close_89 : decode cX11_close 89 = .ok (.laload, 1) := by decide +kernel
theorem dX11_close_90 : decode cX11_close 90 = .ok (.aload_n 0, 1) := by decide +kernel
theorem dX11_close_91 : decode cX11_close 91 = .ok (.getfield 87, 3) := by decide +kernel
theorem dX11_close_94 : decode cX11_close 94 = .ok (.iload_n 2, 1) := by decide +kernel
theorem dX11_close_95 : decode cX11_close 95 = .ok (.laload, 1) := by decide +kernel
theorem dX11_close_96 : decode cX11_close 96 = .ok (.lcmp, 1) := by decide +kernel
theorem dX11_close_97 : decode cX11_close 97 = .ok (.ifCond .ne 20, 3) := by decide +kernel
theorem dX11_close_100 : decode cX11_close 100 = .ok (.aload_n 0, 1) := by decide +kernel
theorem dX11_close_101 : decode cX11_close 101 = .ok (.getfield 90, 3) := by decide +kernel
theorem dX11_close_104 : decode cX11_close 104 = .ok (.iload_n 3, 1) := by decide +kernel
theorem dX11_close_105 : decode cX11_close 105 = .ok (.iaload, 1) := by decide +kernel
theorem dX11_close_106 : decode cX11_close 106 = .ok (.aload_n 0, 1) := by decide +kernel
theorem dX11_close_107 : decode cX11_close 107 = .ok (.getfield 90, 3) := by decide +kernel
theorem dX11_close_110 : decode cX11_close 110 = .ok (.iload_n 2, 1) := by decide +kernel
theorem dX11_close_111 : decode cX11_close 111 = .ok (.iaload, 1) := by decide +kernel
theorem dX11_close_112 : decode cX11_close 112 = .ok (.if_icmp .ge 5, 3) := by decide +kernel
theorem dX11_close_115 : decode cX11_close 115 = .ok (.iload_n 3, 1) := by decide +kernel
theorem dX11_close_116 : decode cX11_close 116 = .ok (.istore_n 2, 1) := by decide +kernel
theorem dX11_close_117 : decode cX11_close 117 = .ok (.iinc 3 1, 3) := by decide +kernel
theorem dX11_close_120 : decode cX11_close 120 = .ok (.goto (-113), 3) := by decide +kernel
theorem dX11_close_123 : decode cX11_close 123 = .ok (.iload_n 2, 1) := by decide +kernel
theorem dX11_close_124 : decode cX11_close 124 = .ok (.ifCond .ge 4, 3) := by decide +kernel
theorem dX11_close_127 : decode cX11_close 127 = .ok (.return_, 1) := by decide +kernel
theorem dX11_close_128 : decode cX11_close 128 = .ok (.aload_n 0, 1) := by decide +kernel
theorem dX11_close_129 : decode cX11_close 129 = .ok (.getfield 87, 3) := by decide +kernel
theorem dX11_close_132 : decode cX11_close 132 = .ok (.iload_n 2, 1) := by decide +kernel
theorem dX11_close_133 : decode cX11_close 133 = .ok (.laload, 1) := by decide +kernel
theorem dX11_close_134 : decode cX11_close 134 = .ok (.aload_n 0, 1) := by decide +kernel
theorem dX11_close_135 : decode cX11_close 135 = .ok (.getfield 33, 3) := by decide +kernel
theorem dX11_close_138 : decode cX11_close 138 = .ok (.bipush 12, 2) := by decide +kernel
theorem dX11_close_140 : decode cX11_close 140 = .ok (.iload_n 1, 1) := by decide +kernel
theorem dX11_close_141 : decode cX11_close 141 = .ok (.iadd, 1) := by decide +kernel
theorem dX11_close_142 : decode cX11_close 142 = .ok (.laload, 1) := by decide +kernel
theorem dX11_close_143 : decode cX11_close 143 = .ok (.lconst 1, 1) := by decide +kernel
theorem dX11_close_144 : decode cX11_close 144 = .ok (.lsub, 1) := by decide +kernel
theorem dX11_close_145 : decode cX11_close 145 = .ok (.invokestatic 311, 3) := by decide +kernel
theorem dX11_close_148 : decode cX11_close 148 = .ok (.lstore_n 3, 1) := by decide +kernel
theorem dX11_close_149 : decode cX11_close 149 = .ok (.aload_n 0, 1) := by decide +kernel
theorem dX11_close_150 : decode cX11_close 150 = .ok (.getfield 90, 3) := by decide +kernel
theorem dX11_close_153 : decode cX11_close 153 = .ok (.iload_n 2, 1) := by decide +kernel
theorem dX11_close_154 : decode cX11_close 154 = .ok (.iaload, 1) := by decide +kernel
theorem dX11_close_155 : decode cX11_close 155 = .ok (.istore 5, 2) := by decide +kernel
theorem dX11_close_157 : decode cX11_close 157 = .ok (.aload_n 0, 1) := by decide +kernel
theorem dX11_close_158 : decode cX11_close 158 = .ok (.getfield 93, 3) := by decide +kernel
theorem dX11_close_161 : decode cX11_close 161 = .ok (.iload_n 2, 1) := by decide +kernel
theorem dX11_close_162 : decode cX11_close 162 = .ok (.iaload, 1) := by decide +kernel
theorem dX11_close_163 : decode cX11_close 163 = .ok (.istore 6, 2) := by decide +kernel
theorem dX11_close_165 : decode cX11_close 165 = .ok (.aload_n 0, 1) := by decide +kernel
theorem dX11_close_166 : decode cX11_close 166 = .ok (.getfield 84, 3) := by decide +kernel
theorem dX11_close_169 : decode cX11_close 169 = .ok (.iload_n 1, 1) := by decide +kernel
theorem dX11_close_170 : decode cX11_close 170 = .ok (.dup2, 1) := by decide +kernel
theorem dX11_close_171 : decode cX11_close 171 = .ok (.iaload, 1) := by decide +kernel
theorem dX11_close_172 : decode cX11_close 172 = .ok (.iconst 1, 1) := by decide +kernel
theorem dX11_close_173 : decode cX11_close 173 = .ok (.isub, 1) := by decide +kernel
theorem dX11_close_174 : decode cX11_close 174 = .ok (.iastore, 1) := by decide +kernel
theorem dX11_close_175 : decode cX11_close 175 = .ok (.bipush 24, 2) := by decide +kernel
theorem dX11_close_177 : decode cX11_close 177 = .ok (.iload_n 1, 1) := by decide +kernel
theorem dX11_close_178 : decode cX11_close 178 = .ok (.imul, 1) := by decide +kernel
theorem dX11_close_179 : decode cX11_close 179 = .ok (.aload_n 0, 1) := by decide +kernel
theorem dX11_close_180 : decode cX11_close 180 = .ok (.getfield 84, 3) := by decide +kernel
theorem dX11_close_183 : decode cX11_close 183 = .ok (.iload_n 1, 1) := by decide +kernel
theorem dX11_close_184 : decode cX11_close 184 = .ok (.iaload, 1) := by decide +kernel
theorem dX11_close_185 : decode cX11_close 185 = .ok (.iadd, 1) := by decide +kernel
theorem dX11_close_186 : decode cX11_close 186 = .ok (.istore 7, 2) := by decide +kernel
theorem dX11_close_188 : decode cX11_close 188 = .ok (.aload_n 0, 1) := by decide +kernel
theorem dX11_close_189 : decode cX11_close 189 = .ok (.getfield 87, 3) := by decide +kernel
theorem dX11_close_192 : decode cX11_close 192 = .ok (.iload_n 2, 1) := by decide +kernel
theorem dX11_close_193 : decode cX11_close 193 = .ok (.aload_n 0, 1) := by decide +kernel
theorem dX11_close_194 : decode cX11_close 194 = .ok (.getfield 87, 3) := by decide +kernel
theorem dX11_close_197 : decode cX11_close 197 = .ok (.iload 7, 2) := by decide +kernel
theorem dX11_close_199 : decode cX11_close 199 = .ok (.laload, 1) := by decide +kernel
theorem dX11_close_200 : decode cX11_close 200 = .ok (.lastore, 1) := by decide +kernel
theorem dX11_close_201 : decode cX11_close 201 = .ok (.aload_n 0, 1) := by decide +kernel
theorem dX11_close_202 : decode cX11_close 202 = .ok (.getfield 90, 3) := by decide +kernel
theorem dX11_close_205 : decode cX11_close 205 = .ok (.iload_n 2, 1) := by decide +kernel
theorem dX11_close_206 : decode cX11_close 206 = .ok (.aload_n 0, 1) := by decide +kernel
theorem dX11_close_207 : decode cX11_close 207 = .ok (.getfield 90, 3) := by decide +kernel
theorem dX11_close_210 : decode cX11_close 210 = .ok (.iload 7, 2) := by decide +kernel
theorem dX11_close_212 : decode cX11_close 212 = .ok (.iaload, 1) := by decide +kernel
theorem dX11_close_213 : decode cX11_close 213 = .ok (.iastore, 1) := by decide +kernel
theorem dX11_close_214 : decode cX11_close 214 = .ok (.aload_n 0, 1) := by decide +kernel
theorem dX11_close_215 : decode cX11_close 215 = .ok (.getfield 93, 3) := by decide +kernel
theorem dX11_close_218 : decode cX11_close 218 = .ok (.iload_n 2, 1) := by decide +kernel
theorem dX11_close_219 : decode cX11_close 219 = .ok (.aload_n 0, 1) := by decide +kernel
theorem dX11_close_220 : decode cX11_close 220 = .ok (.getfield 93, 3) := by decide +kernel
theorem dX11_close_223 : decode cX11_close 223 = .ok (.iload 7, 2) := by decide +kernel
theorem dX11_close_225 : decode cX11_close 225 = .ok (.iaload, 1) := by decide +kernel
theorem dX11_close_226 : decode cX11_close 226 = .ok (.iastore, 1) := by decide +kernel
theorem dX11_close_227 : decode cX11_close 227 = .ok (.aload_n 0, 1) := by decide +kernel
theorem dX11_close_228 : decode cX11_close 228 = .ok (.iload_n 1, 1) := by decide +kernel
theorem dX11_close_229 : decode cX11_close 229 = .ok (.lload_n 3, 1) := by decide +kernel
theorem dX11_close_230 : decode cX11_close 230 = .ok (.iload 5, 2) := by decide +kernel
theorem dX11_close_232 : decode cX11_close 232 = .ok (.iload 6, 2) := by decide +kernel
theorem dX11_close_234 : decode cX11_close 234 = .ok (.invokevirtual 328, 3) := by decide +kernel
theorem dX11_close_237 : decode cX11_close 237 = .ok (.goto (-237), 3) := by decide +kernel
theorem dX11_isStream_0 : decode cX11_isStream 0 = .ok (.aload_n 0, 1) := by decide +kernel
theorem dX11_isStream_1 : decode cX11_isStream 1 = .ok (.getfield 277, 3) := by decide +kernel
theorem dX11_isStream_4 : decode cX11_isStream 4 = .ok (.ifCond .eq 21, 3) := by decide +kernel
theorem dX11_isStream_7 : decode cX11_isStream 7 = .ok (.iload_n 1, 1) := by decide +kernel
theorem dX11_isStream_8 : decode cX11_isStream 8 = .ok (.ifCond .lt 17, 3) := by decide +kernel
theorem dX11_isStream_11 : decode cX11_isStream 11 = .ok (.iload_n 1, 1) := by decide +kernel
theorem dX11_isStream_12 : decode cX11_isStream 12 = .ok (.aload_n 0, 1) := by decide +kernel
theorem dX11_isStream_13 : decode cX11_isStream 13 = .ok (.getfield 60, 3) := by decide +kernel
theorem dX11_isStream_16 : decode cX11_isStream 16 = .ok (.iconst 1, 1) := by decide +kernel
theorem dX11_isStream_17 : decode cX11_isStream 17 = .ok (.iaload, 1) := by decide +kernel
theorem dX11_isStream_18 : decode cX11_isStream 18 = .ok (.if_icmp .ge 7, 3) := by decide +kernel
theorem dX11_isStream_21 : decode cX11_isStream 21 = .ok (.iconst 1, 1) := by decide +kernel
theorem dX11_isStream_22 : decode cX11_isStream 22 = .ok (.goto 4, 3) := by decide +kernel
theorem dX11_isStream_25 : decode cX11_isStream 25 = .ok (.iconst 0, 1) := by decide +kernel
theorem dX11_isStream_26 : decode cX11_isStream 26 = .ok (.ireturn, 1) := by decide +kernel
theorem dX11_isPart_0 : decode cX11_isPart 0 = .ok (.aload_n 0, 1) := by decide +kernel
theorem dX11_isPart_1 : decode cX11_isPart 1 = .ok (.iload_n 1, 1) := by decide +kernel
theorem dX11_isPart_2 : decode cX11_isPart 2 = .ok (.invokevirtual 371, 3) := by decide +kernel
theorem dX11_isPart_5 : decode cX11_isPart 5 = .ok (.ifCond .eq 32, 3) := by decide +kernel
theorem dX11_isPart_8 : decode cX11_isPart 8 = .ok (.aload_n 0, 1) := by decide +kernel
theorem dX11_isPart_9 : decode cX11_isPart 9 = .ok (.iload_n 1, 1) := by decide +kernel
theorem dX11_isPart_10 : decode cX11_isPart 10 = .ok (.invokevirtual 308, 3) := by decide +kernel
theorem dX11_isPart_13 : decode cX11_isPart 13 = .ok (.ifCond .ne 24, 3) := by decide +kernel
theorem dX11_isPart_16 : decode cX11_isPart 16 = .ok (.iload_n 2, 1) := by decide +kernel
theorem dX11_isPart_17 : decode cX11_isPart 17 = .ok (.ifCond .lt 20, 3) := by decide +kernel
theorem dX11_isPart_20 : decode cX11_isPart 20 = .ok (.iload_n 2, 1) := by decide +kernel
theorem dX11_isPart_21 : decode cX11_isPart 21 = .ok (.aload_n 0, 1) := by decide +kernel
theorem dX11_isPart_22 : decode cX11_isPart 22 = .ok (.getfield 26, 3) := by decide +kernel
theorem dX11_isPart_25 : decode cX11_isPart 25 = .ok (.bipush 12, 2) := by decide +kernel
theorem dX11_isPart_27 : decode cX11_isPart 27 = .ok (.iload_n 1, 1) := by decide +kernel
theorem dX11_isPart_28 : decode cX11_isPart 28 = .ok (.iadd, 1) := by decide +kernel
theorem dX11_isPart_29 : decode cX11_isPart 29 = .ok (.iaload, 1) := by decide +kernel
theorem dX11_isPart_30 : decode cX11_isPart 30 = .ok (.if_icmp .ge 7, 3) := by decide +kernel
theorem dX11_isPart_33 : decode cX11_isPart 33 = .ok (.iconst 1, 1) := by decide +kernel
theorem dX11_isPart_34 : decode cX11_isPart 34 = .ok (.goto 4, 3) := by decide +kernel
theorem dX11_isPart_37 : decode cX11_isPart 37 = .ok (.iconst 0, 1) := by decide +kernel
theorem dX11_isPart_38 : decode cX11_isPart 38 = .ok (.ireturn, 1) := by decide +kernel
theorem dX11_isTime_0 : decode cX11_isTime 0 = .ok (.lload_n 0, 1) := by decide +kernel
theorem dX11_isTime_1 : decode cX11_isTime 1 = .ok (.ldc2_w 374, 3) := by decide +kernel
theorem dX11_isTime_4 : decode cX11_isTime 4 = .ok (.lcmp, 1) := by decide +kernel
theorem dX11_isTime_5 : decode cX11_isTime 5 = .ok (.ifCond .lt 15, 3) := by decide +kernel
theorem dX11_isTime_8 : decode cX11_isTime 8 = .ok (.lload_n 0, 1) := by decide +kernel
theorem dX11_isTime_9 : decode cX11_isTime 9 = .ok (.ldc2_w 376, 3) := by decide +kernel
theorem dX11_isTime_12 : decode cX11_isTime 12 = .ok (.lcmp, 1) := by decide +kernel
theorem dX11_isTime_13 : decode cX11_isTime 13 = .ok (.ifCond .gt 7, 3) := by decide +kernel
theorem dX11_isTime_16 : decode cX11_isTime 16 = .ok (.iconst 1, 1) := by decide +kernel
theorem dX11_isTime_17 : decode cX11_isTime 17 = .ok (.goto 4, 3) := by decide +kernel
theorem dX11_isTime_20 : decode cX11_isTime 20 = .ok (.iconst 0, 1) := by decide +kernel
theorem dX11_isTime_21 : decode cX11_isTime 21 = .ok (.ireturn, 1) := by decide +kernel
theorem dX11_isStopped_0 : decode cX11_isStopped 0 = .ok (.aload_n 0, 1) := by decide +kernel
theorem dX11_isStopped_1 : decode cX11_isStopped 1 = .ok (.getfield 42, 3) := by decide +kernel
theorem dX11_isStopped_4 : decode cX11_isStopped 4 = .ok (.bipush 12, 2) := by decide +kernel
theorem dX11_isStopped_6 : decode cX11_isStopped 6 = .ok (.iload_n 1, 1) := by decide +kernel
theorem dX11_isStopped_7 : decode cX11_isStopped 7 = .ok (.iadd, 1) := by decide +kernel
theorem dX11_isStopped_8 : decode cX11_isStopped 8 = .ok (.iaload, 1) := by decide +kernel
theorem dX11_isStopped_9 : decode cX11_isStopped 9 = .ok (.istore_n 3, 1) := by decide +kernel
theorem dX11_isStopped_10 : decode cX11_isStopped 10 = .ok (.aload_n 0, 1) := by decide +kernel
theorem dX11_isStopped_11 : decode cX11_isStopped 11 = .ok (.getfield 69, 3) := by decide +kernel
theorem dX11_isStopped_14 : decode cX11_isStopped 14 = .ok (.iconst 4, 1) := by decide +kernel
theorem dX11_isStopped_15 : decode cX11_isStopped 15 = .ok (.iload_n 1, 1) := by decide +kernel
theorem dX11_isStopped_16 : decode cX11_isStopped 16 = .ok (.imul, 1) := by decide +kernel
theorem dX11_isStopped_17 : decode cX11_isStopped 17 = .ok (.iload_n 2, 1) := by decide +kernel
theorem dX11_isStopped_18 : decode cX11_isStopped 18 = .ok (.iadd, 1) := by decide +kernel
theorem dX11_isStopped_19 : decode cX11_isStopped 19 = .ok (.iaload, 1) := by decide +kernel
theorem dX11_isStopped_20 : decode cX11_isStopped 20 = .ok (.ifCond .ne 18, 3) := by decide +kernel
theorem dX11_isStopped_23 : decode cX11_isStopped 23 = .ok (.iload_n 3, 1) := by decide +kernel
theorem dX11_isStopped_24 : decode cX11_isStopped 24 = .ok (.ifCond .lt 14, 3) := by decide +kernel
theorem dX11_isStopped_27 : decode cX11_isStopped 27 = .ok (.aload_n 0, 1) := by decide +kernel
theorem dX11_isStopped_28 : decode cX11_isStopped 28 = .ok (.getfield 54, 3) := by decide +kernel
theorem dX11_isStopped_31 : decode cX11_isStopped 31 = .ok (.iconst 4, 1) := by decide +kernel
theorem dX11_isStopped_32 : decode cX11_isStopped 32 = .ok (.iload_n 3, 1) := by decide +kernel
theorem dX11_isStopped_33 : decode cX11_isStopped 33 = .ok (.iadd, 1) := by decide +kernel
theorem dX11_isStopped_34 : decode cX11_isStopped 34 = .ok (.baload, 1) := by decide +kernel
theorem dX11_isStopped_35 : decode cX11_isStopped 35 = .ok (.ifCond .ne 5, 3) := by decide +kernel
theorem dX11_isStopped_38 : decode cX11_isStopped 38 = .ok (.iconst 0, 1) := by decide +kernel
theorem dX11_isStopped_39 : decode cX11_isStopped 39 = .ok (.ireturn, 1) := by decide +kernel
theorem dX11_isStopped_40 : decode cX11_isStopped 40 = .ok (.ldc2_w 298, 3) := by decide +kernel
theorem dX11_isStopped_43 : decode cX11_isStopped 43 = .ok (.lstore 4, 2) := by decide +kernel
theorem dX11_isStopped_45 : decode cX11_isStopped 45 = .ok (.iconst 0, 1) := by decide +kernel
theorem dX11_isStopped_46 : decode cX11_isStopped 46 = .ok (.istore 6, 2) := by decide +kernel
theorem dX11_isStopped_48 : decode cX11_isStopped 48 = .ok (.iload 6, 2) := by decide +kernel
theorem dX11_isStopped_50 : decode cX11_isStopped 50 = .ok (.aload_n 0, 1) := by decide +kernel
theorem dX11_isStopped_51 : decode cX11_isStopped 51 = .ok (.getfield 60, 3) := by decide +kernel
theorem dX11_isStopped_54 : decode cX11_isStopped 54 = .ok (.iconst 1, 1) := by decide +kernel
theorem dX11_isStopped_55 : decode cX11_isStopped 55 = .ok (.iaload, 1) := by decide +kernel
theorem dX11_isStopped_56 : decode cX11_isStopped 56 = .ok (.if_icmp .ge 95, 3) := by decide +kernel
theorem dX11_isStopped_59 : decode cX11_isStopped 59 = .ok (.iconst 0, 1) := by decide +kernel
theorem dX11_isStopped_60 : decode cX11_isStopped 60 = .ok (.istore 7, 2) := by decide +kernel
theorem dX11_isStopped_62 : decode cX11_isStopped 62 = .ok (.iload 7, 2) := by decide +kernel
theorem dX11_isStopped_64 : decode cX11_isStopped 64 = .ok (.aload_n 0, 1) := by decide +kernel
theorem dX11_isStopped_65 : decode cX11_isStopped 65 = .ok (.getfield 26, 3) := by decide +kernel
theorem dX11_isStopped_68 : decode cX11_isStopped 68 = .ok (.bipush 12, 2) := by decide +kernel
theorem dX11_isStopped_70 : decode cX11_isStopped 70 = .ok (.iload 6, 2) := by decide +kernel
theorem dX11_isStopped_72 : decode cX11_isStopped 72 = .ok (.iadd, 1) := by decide +kernel
theorem dX11_isStopped_73 : decode cX11_isStopped 73 = .ok (.iaload, 1) := by decide +kernel
theorem dX11_isStopped_74 : decode cX11_isStopped 74 = .ok (.if_icmp .ge 71, 3) := by decide +kernel
theorem dX11_isStopped_77 : decode cX11_isStopped 77 = .ok (.aload_n 0, 1) := by decide +kernel
theorem dX11_isStopped_78 : decode cX11_isStopped 78 = .ok (.iload 6, 2) := by decide +kernel
theorem dX11_isStopped_80 : decode cX11_isStopped 80 = .ok (.invokevirtual 308, 3) := by decide +kernel
theorem dX11_isStopped_83 : decode cX11_isStopped 83 = .ok (.ifCond .ne 62, 3) := by decide +kernel
theorem dX11_isStopped_86 : decode cX11_isStopped 86 = .ok (.aload_n 0, 1) := by decide +kernel
theorem dX11_isStopped_87 : decode cX11_isStopped 87 = .ok (.getfield 42, 3) := by decide +kernel
theorem dX11_isStopped_90 : decode cX11_isStopped 90 = .ok (.bipush 12, 2) := by decide +kernel
theorem dX11_isStopped_92 : decode cX11_isStopped 92 = .ok (.iload 6, 2) := by decide +kernel
theorem dX11_isStopped_94 : decode cX11_isStopped 94 = .ok (.iadd, 1) := by decide +kernel
theorem dX11_isStopped_95 : decode cX11_isStopped 95 = .ok (.iaload, 1) := by decide +kernel
theorem dX11_isStopped_96 : decode cX11_isStopped 96 = .ok (.iload_n 3, 1) := by decide +kernel
theorem dX11_isStopped_97 : decode cX11_isStopped 97 = .ok (.if_icmp .ne 48, 3) := by decide +kernel
theorem dX11_isStopped_100 : decode cX11_isStopped 100 = .ok (.aload_n 0, 1) := by decide +kernel
theorem dX11_isStopped_101 : decode cX11_isStopped 101 = .ok (.getfield 69, 3) := by decide +kernel
theorem dX11_isStopped_104 : decode cX11_isStopped 104 = .ok (.iconst 4, 1) := by decide +kernel
theorem dX11_isStopped_105 : decode cX11_isStopped 105 = .ok (.iload 6, 2) := by decide +kernel
theorem dX11_isStopped_107 : decode cX11_isStopped 107 = .ok (.imul, 1) := by decide +kernel
theorem dX11_isStopped_108 : decode cX11_isStopped 108 = .ok (.iload 7, 2) := by decide +kernel
theorem dX11_isStopped_110 : decode cX11_isStopped 110 = .ok (.iadd, 1) := by decide +kernel
theorem dX11_isStopped_111 : decode cX11_isStopped 111 = .ok (.iaload, 1) := by decide +kernel
theorem dX11_isStopped_112 : decode cX11_isStopped 112 = .ok (.ifCond .ne 23, 3) := by decide +kernel
theorem dX11_isStopped_115 : decode cX11_isStopped 115 = .ok (.lload 4, 2) := by decide +kernel
theorem dX11_isStopped_117 : decode cX11_isStopped 117 = .ok (.aload_n 0, 1) := by decide +kernel
theorem dX11_isStopped_118 : decode cX11_isStopped 118 = .ok (.getfield 72, 3) := by decide +kernel
theorem dX11_isStopped_121 : decode cX11_isStopped 121 = .ok (.iconst 4, 1) := by decide +kernel
theorem dX11_isStopped_122 : decode cX11_isStopped 122 = .ok (.iload 6, 2) := by decide +kernel
theorem dX11_isStopped_124 : decode cX11_isStopped 124 = .ok (.imul, 1) := by decide +kernel
theorem dX11_isStopped_125 : decode cX11_isStopped 125 = .ok (.iload 7, 2) := by decide +kernel
theorem dX11_isStopped_127 : decode cX11_isStopped 127 = .ok (.iadd, 1) := by decide +kernel
theorem dX11_isStopped_128 : decode cX11_isStopped 128 = .ok (.laload, 1) := by decide +kernel
theorem dX11_isStopped_129 : decode cX11_isStopped 129 = .ok (.invokestatic 378, 3) := by decide +kernel
theorem dX11_isStopped_132 : decode cX11_isStopped 132 = .ok (.goto 5, 3) := by decide +kernel
theorem dX11_isStopped_135 : decode cX11_isStopped 135 = .ok (.lload 4, 2) := by decide +kernel
theorem dX11_isStopped_137 : decode cX11_isStopped 137 = .ok (.lstore 4, 2) := by decide +kernel
theorem dX11_isStopped_139 : decode cX11_isStopped 139 = .ok (.iinc 7 1, 3) := by decide +kernel
theorem dX11_isStopped_142 : decode cX11_isStopped 142 = .ok (.goto (-80), 3) := by decide +kernel
theorem dX11_isStopped_145 : decode cX11_isStopped 145 = .ok (.iinc 6 1, 3) := by decide +kernel
theorem dX11_isStopped_148 : decode cX11_isStopped 148 = .ok (.goto (-100), 3) := by decide +kernel
theorem dX11_isStopped_151 : decode cX11_isStopped 151 = .ok (.aload_n 0, 1) := by decide +kernel
theorem dX11_isStopped_152 : decode cX11_isStopped 152 = .ok (.getfield 72, 3) := by decide +kernel
theorem dX11_isStopped_155 : decode cX11_isStopped 155 = .ok (.iconst 4, 1) := by decide +kernel
theorem dX11_isStopped_156 : decode cX11_isStopped 156 = .ok (.iload_n 1, 1) := by decide +kernel
theorem dX11_isStopped_157 : decode cX11_isStopped 157 = .ok (.imul, 1) := by decide +kernel
theorem dX11_isStopped_158 : decode cX11_isStopped 158 = .ok (.iload_n 2, 1) := by decide +kernel
theorem dX11_isStopped_159 : decode cX11_isStopped 159 = .ok (.iadd, 1) := by decide +kernel
theorem dX11_isStopped_160 : decode cX11_isStopped 160 = .ok (.laload, 1) := by decide +kernel
theorem dX11_isStopped_161 : decode cX11_isStopped 161 = .ok (.lload 4, 2) := by decide +kernel
theorem dX11_isStopped_163 : decode cX11_isStopped 163 = .ok (.aload_n 0, 1) := by decide +kernel
theorem dX11_isStopped_164 : decode cX11_isStopped 164 = .ok (.getfield 57, 3) := by decide +kernel
theorem dX11_isStopped_167 : decode cX11_isStopped 167 = .ok (.iconst 4, 1) := by decide +kernel
theorem dX11_isStopped_168 : decode cX11_isStopped 168 = .ok (.iload_n 3, 1) := by decide +kernel
theorem dX11_isStopped_169 : decode cX11_isStopped 169 = .ok (.iadd, 1) := by decide +kernel
theorem dX11_isStopped_170 : decode cX11_isStopped 170 = .ok (.laload, 1) := by decide +kernel
theorem dX11_isStopped_171 : decode cX11_isStopped 171 = .ok (.invokestatic 311, 3) := by decide +kernel
theorem dX11_isStopped_174 : decode cX11_isStopped 174 = .ok (.lcmp, 1) := by decide +kernel
theorem dX11_isStopped_175 : decode cX11_isStopped 175 = .ok (.ifCond .le 7, 3) := by decide +kernel
theorem dX11_isStopped_178 : decode cX11_isStopped 178 = .ok (.iconst 1, 1) := by decide +kernel
theorem dX11_isStopped_179 : decode cX11_isStopped 179 = .ok (.goto 4, 3) := by decide +kernel
theorem dX11_isStopped_182 : decode cX11_isStopped 182 = .ok (.iconst 0, 1) := by decide +kernel
theorem dX11_isStopped_183 : decode cX11_isStopped 183 = .ok (.ireturn, 1) := by decide +kernel
theorem dX11_hear_0 : decode cX11_hear 0 = .ok (.aload_n 0, 1) := by decide +kernel
theorem dX11_hear_1 : decode cX11_hear 1 = .ok (.getfield 69, 3) := by decide +kernel
theorem dX11_hear_4 : decode cX11_hear 4 = .ok (.iconst 4, 1) := by decide +kernel
theorem dX11_hear_5 : decode cX11_hear 5 = .ok (.iload_n 1, 1) := by decide +kernel
theorem dX11_hear_6 : decode cX11_hear 6 = .ok (.imul, 1) := by decide +kernel
theorem dX11_hear_7 : decode cX11_hear 7 = .ok (.iload_n 2, 1) := by decide +kernel
theorem dX11_hear_8 : decode cX11_hear 8 = .ok (.iadd, 1) := by decide +kernel
theorem dX11_hear_9 : decode cX11_hear 9 = .ok (.iconst 0, 1) := by decide +kernel
theorem dX11_hear_10 : decode cX11_hear 10 = .ok (.iastore, 1) := by decide +kernel
theorem dX11_hear_11 : decode cX11_hear 11 = .ok (.aload_n 0, 1) := by decide +kernel
theorem dX11_hear_12 : decode cX11_hear 12 = .ok (.getfield 75, 3) := by decide +kernel
theorem dX11_hear_15 : decode cX11_hear 15 = .ok (.iconst 4, 1) := by decide +kernel
theorem dX11_hear_16 : decode cX11_hear 16 = .ok (.iload_n 1, 1) := by decide +kernel
theorem dX11_hear_17 : decode cX11_hear 17 = .ok (.imul, 1) := by decide +kernel
theorem dX11_hear_18 : decode cX11_hear 18 = .ok (.iload_n 2, 1) := by decide +kernel
theorem dX11_hear_19 : decode cX11_hear 19 = .ok (.iadd, 1) := by decide +kernel
theorem dX11_hear_20 : decode cX11_hear 20 = .ok (.aload_n 0, 1) := by decide +kernel
theorem dX11_hear_21 : decode cX11_hear 21 = .ok (.getfield 292, 3) := by decide +kernel
theorem dX11_hear_24 : decode cX11_hear 24 = .ok (.iastore, 1) := by decide +kernel
theorem dX11_hear_25 : decode cX11_hear 25 = .ok (.return_, 1) := by decide +kernel
theorem dX11_row_0 : decode cX11_row 0 = .ok (.aload_n 0, 1) := by decide +kernel
theorem dX11_row_1 : decode cX11_row 1 = .ok (.iconst 0, 1) := by decide +kernel
theorem dX11_row_2 : decode cX11_row 2 = .ok (.putfield 123, 3) := by decide +kernel
theorem dX11_row_5 : decode cX11_row 5 = .ok (.aload_n 0, 1) := by decide +kernel
theorem dX11_row_6 : decode cX11_row 6 = .ok (.iload_n 1, 1) := by decide +kernel
theorem dX11_row_7 : decode cX11_row 7 = .ok (.iload_n 2, 1) := by decide +kernel
theorem dX11_row_8 : decode cX11_row 8 = .ok (.invokevirtual 381, 3) := by decide +kernel
theorem dX11_row_11 : decode cX11_row 11 = .ok (.ifCond .eq 22, 3) := by decide +kernel
theorem dX11_row_14 : decode cX11_row 14 = .ok (.lload_n 3, 1) := by decide +kernel
theorem dX11_row_15 : decode cX11_row 15 = .ok (.invokestatic 385, 3) := by decide +kernel
theorem dX11_row_18 : decode cX11_row 18 = .ok (.ifCond .eq 15, 3) := by decide +kernel
theorem dX11_row_21 : decode cX11_row 21 = .ok (.iload 5, 2) := by decide +kernel
theorem dX11_row_23 : decode cX11_row 23 = .ok (.ifCond .lt 10, 3) := by decide +kernel
theorem dX11_row_26 : decode cX11_row 26 = .ok (.iload 5, 2) := by decide +kernel
theorem dX11_row_28 : decode cX11_row 28 = .ok (.bipush 9, 2) := by decide +kernel
theorem dX11_row_30 : decode cX11_row 30 = .ok (.if_icmp .le 5, 3) := by decide +kernel
theorem dX11_row_33 : decode cX11_row 33 = .ok (.iconst (-1), 1) := by decide +kernel
theorem dX11_row_34 : decode cX11_row 34 = .ok (.ireturn, 1) := by decide +kernel
theorem dX11_row_35 : decode cX11_row 35 = .ok (.aload_n 0, 1) := by decide +kernel
theorem dX11_row_36 : decode cX11_row 36 = .ok (.getfield 69, 3) := by decide +kernel
theorem dX11_row_39 : decode cX11_row 39 = .ok (.iconst 4, 1) := by decide +kernel
