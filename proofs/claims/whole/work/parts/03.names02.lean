theorem dX5_countIn_0 : decode cX5_countIn 0 = .ok (.iconst 0, 1) := by decide +kernel
theorem dX5_countIn_1 : decode cX5_countIn 1 = .ok (.istore_n 2, 1) := by decide +kernel
theorem dX5_countIn_2 : decode cX5_countIn 2 = .ok (.iconst 0, 1) := by decide +kernel
theorem dX5_countIn_3 : decode cX5_countIn 3 = .ok (.istore_n 3, 1) := by decide +kernel
theorem dX5_countIn_4 : decode cX5_countIn 4 = .ok (.iload_n 3, 1) := by decide +kernel
theorem dX5_countIn_5 : decode cX5_countIn 5 = .ok (.aload_n 0, 1) := by decide +kernel
theorem dX5_countIn_6 : decode cX5_countIn 6 = .ok (.getfield 9, 3) := by decide +kernel
theorem dX5_countIn_9 : decode cX5_countIn 9 = .ok (.if_icmp .ge 22, 3) := by decide +kernel
theorem dX5_countIn_12 : decode cX5_countIn 12 = .ok (.aload_n 0, 1) := by decide +kernel
theorem dX5_countIn_13 : decode cX5_countIn 13 = .ok (.getfield 25, 3) := by decide +kernel
theorem dX5_countIn_16 : decode cX5_countIn 16 = .ok (.iload_n 3, 1) := by decide +kernel
theorem dX5_countIn_17 : decode cX5_countIn 17 = .ok (.iaload, 1) := by decide +kernel
theorem dX5_countIn_18 : decode cX5_countIn 18 = .ok (.iload_n 1, 1) := by decide +kernel
theorem dX5_countIn_19 : decode cX5_countIn 19 = .ok (.if_icmp .ne 6, 3) := by decide +kernel
theorem dX5_countIn_22 : decode cX5_countIn 22 = .ok (.iinc 2 1, 3) := by decide +kernel
theorem dX5_countIn_25 : decode cX5_countIn 25 = .ok (.iinc 3 1, 3) := by decide +kernel
theorem dX5_countIn_28 : decode cX5_countIn 28 = .ok (.goto (-24), 3) := by decide +kernel
theorem dX5_countIn_31 : decode cX5_countIn 31 = .ok (.iload_n 2, 1) := by decide +kernel
theorem dX5_countIn_32 : decode cX5_countIn 32 = .ok (.ireturn, 1) := by decide +kernel
theorem dX5_leastActive_0 : decode cX5_leastActive 0 = .ok (.ldc2_w 42, 3) := by decide +kernel
theorem dX5_leastActive_3 : decode cX5_leastActive 3 = .ok (.lstore_n 1, 1) := by decide +kernel
theorem dX5_leastActive_4 : decode cX5_leastActive 4 = .ok (.iconst 0, 1) := by decide +kernel
theorem dX5_leastActive_5 : decode cX5_leastActive 5 = .ok (.istore_n 3, 1) := by decide +kernel
theorem dX5_leastActive_6 : decode cX5_leastActive 6 = .ok (.iload_n 3, 1) := by decide +kernel
theorem dX5_leastActive_7 : decode cX5_leastActive 7 = .ok (.aload_n 0, 1) := by decide +kernel
theorem dX5_leastActive_8 : decode cX5_leastActive 8 = .ok (.getfield 9, 3) := by decide +kernel
theorem dX5_leastActive_11 : decode cX5_leastActive 11 = .ok (.if_icmp .ge 29, 3) := by decide +kernel
theorem dX5_leastActive_14 : decode cX5_leastActive 14 = .ok (.aload_n 0, 1) := by decide +kernel
theorem dX5_leastActive_15 : decode cX5_leastActive 15 = .ok (.getfield 25, 3) := by decide +kernel
theorem dX5_leastActive_18 : decode cX5_leastActive 18 = .ok (.iload_n 3, 1) := by decide +kernel
theorem dX5_leastActive_19 : decode cX5_leastActive 19 = .ok (.iaload, 1) := by decide +kernel
theorem dX5_leastActive_20 : decode cX5_leastActive 20 = .ok (.ifCond .ne 14, 3) := by decide +kernel
theorem dX5_leastActive_23 : decode cX5_leastActive 23 = .ok (.lload_n 1, 1) := by decide +kernel
theorem dX5_leastActive_24 : decode cX5_leastActive 24 = .ok (.aload_n 0, 1) := by decide +kernel
theorem dX5_leastActive_25 : decode cX5_leastActive 25 = .ok (.getfield 29, 3) := by decide +kernel
theorem dX5_leastActive_28 : decode cX5_leastActive 28 = .ok (.iload_n 3, 1) := by decide +kernel
theorem dX5_leastActive_29 : decode cX5_leastActive 29 = .ok (.laload, 1) := by decide +kernel
theorem dX5_leastActive_30 : decode cX5_leastActive 30 = .ok (.invokestatic 44, 3) := by decide +kernel
theorem dX5_leastActive_33 : decode cX5_leastActive 33 = .ok (.lstore_n 1, 1) := by decide +kernel
theorem dX5_leastActive_34 : decode cX5_leastActive 34 = .ok (.iinc 3 1, 3) := by decide +kernel
theorem dX5_leastActive_37 : decode cX5_leastActive 37 = .ok (.goto (-31), 3) := by decide +kernel
theorem dX5_leastActive_40 : decode cX5_leastActive 40 = .ok (.lload_n 1, 1) := by decide +kernel
theorem dX5_leastActive_41 : decode cX5_leastActive 41 = .ok (.lreturn, 1) := by decide +kernel
theorem dX5_goal_0 : decode cX5_goal 0 = .ok (.aload_n 0, 1) := by decide +kernel
theorem dX5_goal_1 : decode cX5_goal 1 = .ok (.iconst 0, 1) := by decide +kernel
theorem dX5_goal_2 : decode cX5_goal 2 = .ok (.invokevirtual 50, 3) := by decide +kernel
theorem dX5_goal_5 : decode cX5_goal 5 = .ok (.ifCond .le 8, 3) := by decide +kernel
theorem dX5_goal_8 : decode cX5_goal 8 = .ok (.aload_n 0, 1) := by decide +kernel
theorem dX5_goal_9 : decode cX5_goal 9 = .ok (.invokevirtual 54, 3) := by decide +kernel
theorem dX5_goal_12 : decode cX5_goal 12 = .ok (.lreturn, 1) := by decide +kernel
theorem dX5_goal_13 : decode cX5_goal 13 = .ok (.aload_n 0, 1) := by decide +kernel
theorem dX5_goal_14 : decode cX5_goal 14 = .ok (.iconst 2, 1) := by decide +kernel
theorem dX5_goal_15 : decode cX5_goal 15 = .ok (.invokevirtual 50, 3) := by decide +kernel
theorem dX5_goal_18 : decode cX5_goal 18 = .ok (.aload_n 0, 1) := by decide +kernel
theorem dX5_goal_19 : decode cX5_goal 19 = .ok (.getfield 9, 3) := by decide +kernel
theorem dX5_goal_22 : decode cX5_goal 22 = .ok (.if_icmp .ne 9, 3) := by decide +kernel
theorem dX5_goal_25 : decode cX5_goal 25 = .ok (.ldc2_w 42, 3) := by decide +kernel
theorem dX5_goal_28 : decode cX5_goal 28 = .ok (.goto 6, 3) := by decide +kernel
theorem dX5_goal_31 : decode cX5_goal 31 = .ok (.ldc2_w 58, 3) := by decide +kernel
theorem dX5_goal_34 : decode cX5_goal 34 = .ok (.lreturn, 1) := by decide +kernel
theorem dX5_isSilent_0 : decode cX5_isSilent 0 = .ok (.aload_n 0, 1) := by decide +kernel
theorem dX5_isSilent_1 : decode cX5_isSilent 1 = .ok (.getfield 19, 3) := by decide +kernel
theorem dX5_isSilent_4 : decode cX5_isSilent 4 = .ok (.ifCond .eq 31, 3) := by decide +kernel
theorem dX5_isSilent_7 : decode cX5_isSilent 7 = .ok (.aload_n 0, 1) := by decide +kernel
theorem dX5_isSilent_8 : decode cX5_isSilent 8 = .ok (.getfield 25, 3) := by decide +kernel
theorem dX5_isSilent_11 : decode cX5_isSilent 11 = .ok (.iload_n 1, 1) := by decide +kernel
theorem dX5_isSilent_12 : decode cX5_isSilent 12 = .ok (.iaload, 1) := by decide +kernel
theorem dX5_isSilent_13 : decode cX5_isSilent 13 = .ok (.ifCond .ne 22, 3) := by decide +kernel
theorem dX5_isSilent_16 : decode cX5_isSilent 16 = .ok (.iload_n 2, 1) := by decide +kernel
theorem dX5_isSilent_17 : decode cX5_isSilent 17 = .ok (.aload_n 0, 1) := by decide +kernel
theorem dX5_isSilent_18 : decode cX5_isSilent 18 = .ok (.getfield 33, 3) := by decide +kernel
theorem dX5_isSilent_21 : decode cX5_isSilent 21 = .ok (.iload_n 1, 1) := by decide +kernel
theorem dX5_isSilent_22 : decode cX5_isSilent 22 = .ok (.iaload, 1) := by decide +kernel
theorem dX5_isSilent_23 : decode cX5_isSilent 23 = .ok (.isub, 1) := by decide +kernel
theorem dX5_isSilent_24 : decode cX5_isSilent 24 = .ok (.aload_n 0, 1) := by decide +kernel
theorem dX5_isSilent_25 : decode cX5_isSilent 25 = .ok (.getfield 19, 3) := by decide +kernel
theorem dX5_isSilent_28 : decode cX5_isSilent 28 = .ok (.if_icmp .lt 7, 3) := by decide +kernel
theorem dX5_isSilent_31 : decode cX5_isSilent 31 = .ok (.iconst 1, 1) := by decide +kernel
theorem dX5_isSilent_32 : decode cX5_isSilent 32 = .ok (.goto 4, 3) := by decide +kernel
theorem dX5_isSilent_35 : decode cX5_isSilent 35 = .ok (.iconst 0, 1) := by decide +kernel
theorem dX5_isSilent_36 : decode cX5_isSilent 36 = .ok (.ireturn, 1) := by decide +kernel
theorem dX6_init_0 : decode cX6_init 0 = .ok (.aload_n 0, 1) := by decide +kernel
theorem dX6_init_1 : decode cX6_init 1 = .ok (.invokespecial 3, 3) := by decide +kernel
theorem dX6_init_4 : decode cX6_init 4 = .ok (.aload_n 0, 1) := by decide +kernel
theorem dX6_init_5 : decode cX6_init 5 = .ok (.iload_n 1, 1) := by decide +kernel
theorem dX6_init_6 : decode cX6_init 6 = .ok (.putfield 9, 3) := by decide +kernel
theorem dX6_init_9 : decode cX6_init 9 = .ok (.aload_n 0, 1) := by decide +kernel
theorem dX6_init_10 : decode cX6_init 10 = .ok (.lload_n 2, 1) := by decide +kernel
theorem dX6_init_11 : decode cX6_init 11 = .ok (.putfield 15, 3) := by decide +kernel
theorem dX6_init_14 : decode cX6_init 14 = .ok (.aload_n 0, 1) := by decide +kernel
theorem dX6_init_15 : decode cX6_init 15 = .ok (.lload 4, 2) := by decide +kernel
theorem dX6_init_17 : decode cX6_init 17 = .ok (.putfield 19, 3) := by decide +kernel
theorem dX6_init_20 : decode cX6_init 20 = .ok (.aload_n 0, 1) := by decide +kernel
theorem dX6_init_21 : decode cX6_init 21 = .ok (.iconst 4, 1) := by decide +kernel
theorem dX6_init_22 : decode cX6_init 22 = .ok (.anewarray 10, 3) := by decide +kernel
theorem dX6_init_25 : decode cX6_init 25 = .ok (.putfield 22, 3) := by decide +kernel
theorem dX6_init_28 : decode cX6_init 28 = .ok (.aload_n 0, 1) := by decide +kernel
theorem dX6_init_29 : decode cX6_init 29 = .ok (.ldc2_w 26, 3) := by decide +kernel
theorem dX6_init_32 : decode cX6_init 32 = .ok (.putfield 28, 3) := by decide +kernel
theorem dX6_init_35 : decode cX6_init 35 = .ok (.return_, 1) := by decide +kernel
theorem dX6_addInput_0 : decode cX6_addInput 0 = .ok (.aload_n 0, 1) := by decide +kernel
theorem dX6_addInput_1 : decode cX6_addInput 1 = .ok (.getfield 31, 3) := by decide +kernel
theorem dX6_addInput_4 : decode cX6_addInput 4 = .ok (.aload_n 0, 1) := by decide +kernel
theorem dX6_addInput_5 : decode cX6_addInput 5 = .ok (.getfield 22, 3) := by decide +kernel
theorem dX6_addInput_8 : decode cX6_addInput 8 = .ok (.arraylength, 1) := by decide +kernel
theorem dX6_addInput_9 : decode cX6_addInput 9 = .ok (.if_icmp .ge 23, 3) := by decide +kernel
theorem dX6_addInput_12 : decode cX6_addInput 12 = .ok (.aload_n 0, 1) := by decide +kernel
theorem dX6_addInput_13 : decode cX6_addInput 13 = .ok (.getfield 22, 3) := by decide +kernel
theorem dX6_addInput_16 : decode cX6_addInput 16 = .ok (.aload_n 0, 1) := by decide +kernel
theorem dX6_addInput_17 : decode cX6_addInput 17 = .ok (.getfield 31, 3) := by decide +kernel
theorem dX6_addInput_20 : decode cX6_addInput 20 = .ok (.aload_n 1, 1) := by decide +kernel
theorem dX6_addInput_21 : decode cX6_addInput 21 = .ok (.aastore, 1) := by decide +kernel
theorem dX6_addInput_22 : decode cX6_addInput 22 = .ok (.aload_n 0, 1) := by decide +kernel
theorem dX6_addInput_23 : decode cX6_addInput 23 = .ok (.dup, 1) := by decide +kernel
theorem dX6_addInput_24 : decode cX6_addInput 24 = .ok (.getfield 31, 3) := by decide +kernel
theorem dX6_addInput_27 : decode cX6_addInput 27 = .ok (.iconst 1, 1) := by decide +kernel
theorem dX6_addInput_28 : decode cX6_addInput 28 = .ok (.iadd, 1) := by decide +kernel
theorem dX6_addInput_29 : decode cX6_addInput 29 = .ok (.putfield 31, 3) := by decide +kernel
theorem dX6_addInput_32 : decode cX6_addInput 32 = .ok (.return_, 1) := by decide +kernel
theorem dX6_leastOfInputs_0 : decode cX6_leastOfInputs 0 = .ok (.ldc2_w 34, 3) := by decide +kernel
theorem dX6_leastOfInputs_3 : decode cX6_leastOfInputs 3 = .ok (.lstore_n 1, 1) := by decide +kernel
theorem dX6_leastOfInputs_4 : decode cX6_leastOfInputs 4 = .ok (.iconst 1, 1) := by decide +kernel
theorem dX6_leastOfInputs_5 : decode cX6_leastOfInputs 5 = .ok (.istore_n 3, 1) := by decide +kernel
theorem dX6_leastOfInputs_6 : decode cX6_leastOfInputs 6 = .ok (.iconst 0, 1) := by decide +kernel
theorem dX6_leastOfInputs_7 : decode cX6_leastOfInputs 7 = .ok (.istore 4, 2) := by decide +kernel
theorem dX6_leastOfInputs_9 : decode cX6_leastOfInputs 9 = .ok (.iload 4, 2) := by decide +kernel
theorem dX6_leastOfInputs_11 : decode cX6_leastOfInputs 11 = .ok (.aload_n 0, 1) := by decide +kernel
theorem dX6_leastOfInputs_12 : decode cX6_leastOfInputs 12 = .ok (.getfield 31, 3) := by decide +kernel
theorem dX6_leastOfInputs_15 : decode cX6_leastOfInputs 15 = .ok (.if_icmp .ge 50, 3) := by decide +kernel
theorem dX6_leastOfInputs_18 : decode cX6_leastOfInputs 18 = .ok (.aload_n 0, 1) := by decide +kernel
theorem dX6_leastOfInputs_19 : decode cX6_leastOfInputs 19 = .ok (.getfield 22, 3) := by decide +kernel
theorem dX6_leastOfInputs_22 : decode cX6_leastOfInputs 22 = .ok (.iload 4, 2) := by decide +kernel
theorem dX6_leastOfInputs_24 : decode cX6_leastOfInputs 24 = .ok (.aaload, 1) := by decide +kernel
theorem dX6_leastOfInputs_25 : decode cX6_leastOfInputs 25 = .ok (.astore 5, 2) := by decide +kernel
theorem dX6_leastOfInputs_27 : decode cX6_leastOfInputs 27 = .ok (.aload 5, 2) := by decide +kernel
theorem dX6_leastOfInputs_29 : decode cX6_leastOfInputs 29 = .ok (.getfield 28, 3) := by decide +kernel
theorem dX6_leastOfInputs_32 : decode cX6_leastOfInputs 32 = .ok (.ldc2_w 34, 3) := by decide +kernel
theorem dX6_leastOfInputs_35 : decode cX6_leastOfInputs 35 = .ok (.lcmp, 1) := by decide +kernel
theorem dX6_leastOfInputs_36 : decode cX6_leastOfInputs 36 = .ok (.ifCond .eq 23, 3) := by decide +kernel
theorem dX6_leastOfInputs_39 : decode cX6_leastOfInputs 39 = .ok (.iconst 0, 1) := by decide +kernel
theorem dX6_leastOfInputs_40 : decode cX6_leastOfInputs 40 = .ok (.istore_n 3, 1) := by decide +kernel
theorem dX6_leastOfInputs_41 : decode cX6_leastOfInputs 41 = .ok (.aload 5, 2) := by decide +kernel
theorem dX6_leastOfInputs_43 : decode cX6_leastOfInputs 43 = .ok (.getfield 36, 3) := by decide +kernel
theorem dX6_leastOfInputs_46 : decode cX6_leastOfInputs 46 = .ok (.ifCond .ne 13, 3) := by decide +kernel
theorem dX6_leastOfInputs_49 : decode cX6_leastOfInputs 49 = .ok (.lload_n 1, 1) := by decide +kernel
theorem dX6_leastOfInputs_50 : decode cX6_leastOfInputs 50 = .ok (.aload 5, 2) := by decide +kernel
theorem dX6_leastOfInputs_52 : decode cX6_leastOfInputs 52 = .ok (.getfield 28, 3) := by decide +kernel
theorem dX6_leastOfInputs_55 : decode cX6_leastOfInputs 55 = .ok (.invokestatic 40, 3) := by decide +kernel
theorem dX6_leastOfInputs_58 : decode cX6_leastOfInputs 58 = .ok (.lstore_n 1, 1) := by decide +kernel
theorem dX6_leastOfInputs_59 : decode cX6_leastOfInputs 59 = .ok (.iinc 4 1, 3) := by decide +kernel
theorem dX6_leastOfInputs_62 : decode cX6_leastOfInputs 62 = .ok (.goto (-53), 3) := by decide +kernel
theorem dX6_leastOfInputs_65 : decode cX6_leastOfInputs 65 = .ok (.lload_n 1, 1) := by decide +kernel
theorem dX6_leastOfInputs_66 : decode cX6_leastOfInputs 66 = .ok (.ldc2_w 34, 3) := by decide +kernel
theorem dX6_leastOfInputs_69 : decode cX6_leastOfInputs 69 = .ok (.lcmp, 1) := by decide +kernel
theorem dX6_leastOfInputs_70 : decode cX6_leastOfInputs 70 = .ok (.ifCond .ne 7, 3) := by decide +kernel
theorem dX6_leastOfInputs_73 : decode cX6_leastOfInputs 73 = .ok (.iload_n 3, 1) := by decide +kernel
theorem dX6_leastOfInputs_74 : decode cX6_leastOfInputs 74 = .ok (.ifCond .eq 7, 3) := by decide +kernel
theorem dX6_leastOfInputs_77 : decode cX6_leastOfInputs 77 = .ok (.lload_n 1, 1) := by decide +kernel
theorem dX6_leastOfInputs_78 : decode cX6_leastOfInputs 78 = .ok (.goto 6, 3) := by decide +kernel
theorem dX6_leastOfInputs_81 : decode cX6_leastOfInputs 81 = .ok (.ldc2_w 46, 3) := by decide +kernel
theorem dX6_leastOfInputs_84 : decode cX6_leastOfInputs 84 = .ok (.lreturn, 1) := by decide +kernel
theorem dX6_write_0 : decode cX6_write 0 = .ok (.aload_n 1, 1) := by decide +kernel
theorem dX6_write_1 : decode cX6_write 1 = .ok (.aload_n 0, 1) := by decide +kernel
theorem dX6_write_2 : decode cX6_write 2 = .ok (.getfield 9, 3) := by decide +kernel
theorem dX6_write_5 : decode cX6_write 5 = .ok (.i2l, 1) := by decide +kernel
theorem dX6_write_6 : decode cX6_write 6 = .ok (.invokevirtual 48, 3) := by decide +kernel
theorem dX6_write_9 : decode cX6_write 9 = .ok (.aload_n 1, 1) := by decide +kernel
theorem dX6_write_10 : decode cX6_write 10 = .ok (.bipush 32, 2) := by decide +kernel
theorem dX6_write_12 : decode cX6_write 12 = .ok (.invokevirtual 54, 3) := by decide +kernel
theorem dX6_write_15 : decode cX6_write 15 = .ok (.aload_n 1, 1) := by decide +kernel
theorem dX6_write_16 : decode cX6_write 16 = .ok (.aload_n 0, 1) := by decide +kernel
theorem dX6_write_17 : decode cX6_write 17 = .ok (.getfield 15, 3) := by decide +kernel
theorem dX6_write_20 : decode cX6_write 20 = .ok (.invokevirtual 58, 3) := by decide +kernel
theorem dX6_write_23 : decode cX6_write 23 = .ok (.aload_n 1, 1) := by decide +kernel
theorem dX6_write_24 : decode cX6_write 24 = .ok (.bipush 32, 2) := by decide +kernel
theorem dX6_write_26 : decode cX6_write 26 = .ok (.invokevirtual 54, 3) := by decide +kernel
theorem dX6_write_29 : decode cX6_write 29 = .ok (.aload_n 1, 1) := by decide +kernel
theorem dX6_write_30 : decode cX6_write 30 = .ok (.aload_n 0, 1) := by decide +kernel
theorem dX6_write_31 : decode cX6_write 31 = .ok (.getfield 19, 3) := by decide +kernel
theorem dX6_write_34 : decode cX6_write 34 = .ok (.invokevirtual 58, 3) := by decide +kernel
theorem dX6_write_37 : decode cX6_write 37 = .ok (.aload_n 1, 1) := by decide +kernel
theorem dX6_write_38 : decode cX6_write 38 = .ok (.bipush 32, 2) := by decide +kernel
theorem dX6_write_40 : decode cX6_write 40 = .ok (.invokevirtual 54, 3) := by decide +kernel
theorem dX6_write_43 : decode cX6_write 43 = .ok (.iconst 0, 1) := by decide +kernel
theorem dX6_write_44 : decode cX6_write 44 = .ok (.istore_n 2, 1) := by decide +kernel
theorem dX6_write_45 : decode cX6_write 45 = .ok (.iload_n 2, 1) := by decide +kernel
theorem dX6_write_46 : decode cX6_write 46 = .ok (.aload_n 0, 1) := by decide +kernel
theorem dX6_write_47 : decode cX6_write 47 = .ok (.getfield 31, 3) := by decide +kernel
theorem dX6_write_50 : decode cX6_write 50 = .ok (.if_icmp .ge 29, 3) := by decide +kernel
theorem dX6_write_53 : decode cX6_write 53 = .ok (.aload_n 1, 1) := by decide +kernel
theorem dX6_write_54 : decode cX6_write 54 = .ok (.aload_n 0, 1) := by decide +kernel
theorem dX6_write_55 : decode cX6_write 55 = .ok (.getfield 22, 3) := by decide +kernel
theorem dX6_write_58 : decode cX6_write 58 = .ok (.iload_n 2, 1) := by decide +kernel
theorem dX6_write_59 : decode cX6_write 59 = .ok (.aaload, 1) := by decide +kernel
theorem dX6_write_60 : decode cX6_write 60 = .ok (.getfield 9, 3) := by decide +kernel
theorem dX6_write_63 : decode cX6_write 63 = .ok (.i2l, 1) := by decide +kernel
theorem dX6_write_64 : decode cX6_write 64 = .ok (.invokevirtual 48, 3) := by decide +kernel
theorem dX6_write_67 : decode cX6_write 67 = .ok (.aload_n 1, 1) := by decide +kernel
theorem dX6_write_68 : decode cX6_write 68 = .ok (.bipush 32, 2) := by decide +kernel
theorem dX6_write_70 : decode cX6_write 70 = .ok (.invokevirtual 54, 3) := by decide +kernel
theorem dX6_write_73 : decode cX6_write 73 = .ok (.iinc 2 1, 3) := by decide +kernel
theorem dX6_write_76 : decode cX6_write 76 = .ok (.goto (-31), 3) := by decide +kernel
theorem dX6_write_79 : decode cX6_write 79 = .ok (.aload_n 1, 1) := by decide +kernel
theorem dX6_write_80 : decode cX6_write 80 = .ok (.aload_n 0, 1) := by decide +kernel
theorem dX6_write_81 : decode cX6_write 81 = .ok (.getfield 28, 3) := by decide +kernel
theorem dX6_write_84 : decode cX6_write 84 = .ok (.invokevirtual 61, 3) := by decide +kernel
theorem dX6_write_87 : decode cX6_write 87 = .ok (.aload_n 0, 1) := by decide +kernel
theorem dX6_write_88 : decode cX6_write 88 = .ok (.getfield 36, 3) := by decide +kernel
theorem dX6_write_91 : decode cX6_write 91 = .ok (.ifCond .eq 16, 3) := by decide +kernel
theorem dX6_write_94 : decode cX6_write 94 = .ok (.aload_n 1, 1) := by decide +kernel
theorem dX6_write_95 : decode cX6_write 95 = .ok (.bipush 32, 2) := by decide +kernel
theorem dX6_write_97 : decode cX6_write 97 = .ok (.invokevirtual 54, 3) := by decide +kernel
theorem dX6_write_100 : decode cX6_write 100 = .ok (.aload_n 1, 1) := by decide +kernel
theorem dX6_write_101 : decode cX6_write 101 = .ok (.ldc2_w 64, 3) := by decide +kernel
theorem dX6_write_104 : decode cX6_write 104 = .ok (.invokevirtual 58, 3) := by decide +kernel
theorem dX6_write_107 : decode cX6_write 107 = .ok (.aload_n 1, 1) := by decide +kernel
theorem dX6_write_108 : decode cX6_write 108 = .ok (.bipush 10, 2) := by decide +kernel
theorem dX6_write_110 : decode cX6_write 110 = .ok (.invokevirtual 54, 3) := by decide +kernel
theorem dX6_write_113 : decode cX6_write 113 = .ok (.return_, 1) := by decide +kernel
theorem dX7_init_0 : decode cX7_init 0 = .ok (.aload_n 0, 1) := by decide +kernel
theorem dX7_init_1 : decode cX7_init 1 = .ok (.invokespecial 3, 3) := by decide +kernel
theorem dX7_init_4 : decode cX7_init 4 = .ok (.aload_n 0, 1) := by decide +kernel
theorem dX7_init_5 : decode cX7_init 5 = .ok (.aload_n 1, 1) := by decide +kernel
theorem dX7_init_6 : decode cX7_init 6 = .ok (.putfield 9, 3) := by decide +kernel
theorem dX7_init_9 : decode cX7_init 9 = .ok (.aload_n 0, 1) := by decide +kernel
theorem dX7_init_10 : decode cX7_init 10 = .ok (.aload_n 2, 1) := by decide +kernel
theorem dX7_init_11 : decode cX7_init 11 = .ok (.putfield 15, 3) := by decide +kernel
theorem dX7_init_14 : decode cX7_init 14 = .ok (.return_, 1) := by decide +kernel
theorem dX7_readText_0 : decode cX7_readText 0 = .ok (.aload_n 0, 1) := by decide +kernel
theorem dX7_readText_1 : decode cX7_readText 1 = .ok (.getfield 9, 3) := by decide +kernel
theorem dX7_readText_4 : decode cX7_readText 4 = .ok (.invokevirtual 19, 3) := by decide +kernel
theorem dX7_readText_7 : decode cX7_readText 7 = .ok (.iconst 0, 1) := by decide +kernel
theorem dX7_readText_8 : decode cX7_readText 8 = .ok (.istore_n 1, 1) := by decide +kernel
theorem dX7_readText_9 : decode cX7_readText 9 = .ok (.iload_n 1, 1) := by decide +kernel
theorem dX7_readText_10 : decode cX7_readText 10 = .ok (.bipush 20, 2) := by decide +kernel
theorem dX7_readText_12 : decode cX7_readText 12 = .ok (.if_icmp .gt 95, 3) := by decide +kernel
theorem dX7_readText_15 : decode cX7_readText 15 = .ok (.iload_n 1, 1) := by decide +kernel
theorem dX7_readText_16 : decode cX7_readText 16 = .ok (.ifCond .le 15, 3) := by decide +kernel
theorem dX7_readText_19 : decode cX7_readText 19 = .ok (.aload_n 0, 1) := by decide +kernel
theorem dX7_readText_20 : decode cX7_readText 20 = .ok (.getfield 9, 3) := by decide +kernel
theorem dX7_readText_23 : decode cX7_readText 23 = .ok (.getfield 24, 3) := by decide +kernel
theorem dX7_readText_26 : decode cX7_readText 26 = .ok (.ifCond .ne 5, 3) := by decide +kernel
theorem dX7_readText_29 : decode cX7_readText 29 = .ok (.iconst 1, 1) := by decide +kernel
theorem dX7_readText_30 : decode cX7_readText 30 = .ok (.ireturn, 1) := by decide +kernel
theorem dX7_readText_31 : decode cX7_readText 31 = .ok (.iload_n 1, 1) := by decide +kernel
theorem dX7_readText_32 : decode cX7_readText 32 = .ok (.bipush 20, 2) := by decide +kernel
theorem dX7_readText_34 : decode cX7_readText 34 = .ok (.if_icmp .ne 7, 3) := by decide +kernel
theorem dX7_readText_37 : decode cX7_readText 37 = .ok (.iconst 1, 1) := by decide +kernel
theorem dX7_readText_38 : decode cX7_readText 38 = .ok (.goto 4, 3) := by decide +kernel
theorem dX7_readText_41 : decode cX7_readText 41 = .ok (.iconst 0, 1) := by decide +kernel
theorem dX7_readText_42 : decode cX7_readText 42 = .ok (.istore_n 2, 1) := by decide +kernel
theorem dX7_readText_43 : decode cX7_readText 43 = .ok (.aload_n 0, 1) := by decide +kernel
theorem dX7_readText_44 : decode cX7_readText 44 = .ok (.ldc2_w 28, 3) := by decide +kernel
theorem dX7_readText_47 : decode cX7_readText 47 = .ok (.invokevirtual 30, 3) := by decide +kernel
theorem dX7_readText_50 : decode cX7_readText 50 = .ok (.ifCond .eq 23, 3) := by decide +kernel
theorem dX7_readText_53 : decode cX7_readText 53 = .ok (.iload_n 2, 1) := by decide +kernel
theorem dX7_readText_54 : decode cX7_readText 54 = .ok (.ifCond .eq 10, 3) := by decide +kernel
theorem dX7_readText_57 : decode cX7_readText 57 = .ok (.aload_n 0, 1) := by decide +kernel
theorem dX7_readText_58 : decode cX7_readText 58 = .ok (.bipush 6, 2) := by decide +kernel
theorem dX7_readText_60 : decode cX7_readText 60 = .ok (.invokevirtual 34, 3) := by decide +kernel
theorem dX7_readText_63 : decode cX7_readText 63 = .ok (.ireturn, 1) := by decide +kernel
theorem dX7_readText_64 : decode cX7_readText 64 = .ok (.aload_n 0, 1) := by decide +kernel
theorem dX7_readText_65 : decode cX7_readText 65 = .ok (.invokevirtual 38, 3) := by decide +kernel
theorem dX7_readText_68 : decode cX7_readText 68 = .ok (.ifCond .ne 33, 3) := by decide +kernel
theorem dX7_readText_71 : decode cX7_readText 71 = .ok (.iconst 0, 1) := by decide +kernel
theorem dX7_readText_72 : decode cX7_readText 72 = .ok (.ireturn, 1) := by decide +kernel
theorem dX7_readText_73 : decode cX7_readText 73 = .ok (.aload_n 0, 1) := by decide +kernel
theorem dX7_readText_74 : decode cX7_readText 74 = .ok (.iload_n 2, 1) := by decide +kernel
theorem dX7_readText_75 : decode cX7_readText 75 = .ok (.invokevirtual 42, 3) := by decide +kernel
theorem dX7_readText_78 : decode cX7_readText 78 = .ok (.astore_n 3, 1) := by decide +kernel
theorem dX7_readText_79 : decode cX7_readText 79 = .ok (.aload_n 3, 1) := by decide +kernel
theorem dX7_readText_80 : decode cX7_readText 80 = .ok (.ifnull 11, 3) := by decide +kernel
theorem dX7_readText_83 : decode cX7_readText 83 = .ok (.aload_n 0, 1) := by decide +kernel
theorem dX7_readText_84 : decode cX7_readText 84 = .ok (.aload_n 3, 1) := by decide +kernel
theorem dX7_readText_85 : decode cX7_readText 85 = .ok (.invokevirtual 46, 3) := by decide +kernel
theorem dX7_readText_88 : decode cX7_readText 88 = .ok (.ifCond .ne 5, 3) := by decide +kernel
theorem dX7_readText_91 : decode cX7_readText 91 = .ok (.iconst 0, 1) := by decide +kernel
theorem dX7_readText_92 : decode cX7_readText 92 = .ok (.ireturn, 1) := by decide +kernel
theorem dX7_readText_93 : decode cX7_readText 93 = .ok (.aload_n 0, 1) := by decide +kernel
theorem dX7_readText_94 : decode cX7_readText 94 = .ok (.getfield 15, 3) := by decide +kernel
theorem dX7_readText_97 : decode cX7_readText 97 = .ok (.aload_n 3, 1) := by decide +kernel
theorem dX7_readText_98 : decode cX7_readText 98 = .ok (.invokevirtual 50, 3) := by decide +kernel
theorem dX7_readText_101 : decode cX7_readText 101 = .ok (.iinc 1 1, 3) := by decide +kernel
theorem dX7_readText_104 : decode cX7_readText 104 = .ok (.goto (-95), 3) := by decide +kernel
theorem dX7_readText_107 : decode cX7_readText 107 = .ok (.iconst 0, 1) := by decide +kernel
theorem dX7_readText_108 : decode cX7_readText 108 = .ok (.ireturn, 1) := by decide +kernel
theorem dX7_readAlign_0 : decode cX7_readAlign 0 = .ok (.aload_n 0, 1) := by decide +kernel
theorem dX7_readAlign_1 : decode cX7_readAlign 1 = .ok (.getfield 9, 3) := by decide +kernel
theorem dX7_readAlign_4 : decode cX7_readAlign 4 = .ok (.invokevirtual 19, 3) := by decide +kernel
theorem dX7_readAlign_7 : decode cX7_readAlign 7 = .ok (.aload_n 0, 1) := by decide +kernel
theorem dX7_readAlign_8 : decode cX7_readAlign 8 = .ok (.lconst 0, 1) := by decide +kernel
theorem dX7_readAlign_9 : decode cX7_readAlign 9 = .ok (.ldc2_w 56, 3) := by decide +kernel
theorem dX7_readAlign_12 : decode cX7_readAlign 12 = .ok (.invokevirtual 58, 3) := by decide +kernel
theorem dX7_readAlign_15 : decode cX7_readAlign 15 = .ok (.ifCond .ne 5, 3) := by decide +kernel
theorem dX7_readAlign_18 : decode cX7_readAlign 18 = .ok (.iconst 0, 1) := by decide +kernel
theorem dX7_readAlign_19 : decode cX7_readAlign 19 = .ok (.ireturn, 1) := by decide +kernel
theorem dX7_readAlign_20 : decode cX7_readAlign 20 = .ok (.aload_n 0, 1) := by decide +kernel
theorem dX7_readAlign_21 : decode cX7_readAlign 21 = .ok (.getfield 62, 3) := by decide +kernel
theorem dX7_readAlign_24 : decode cX7_readAlign 24 = .ok (.l2i, 1) := by decide +kernel
theorem dX7_readAlign_25 : decode cX7_readAlign 25 = .ok (.istore_n 1, 1) := by decide +kernel
theorem dX7_readAlign_26 : decode cX7_readAlign 26 = .ok (.aload_n 0, 1) := by decide +kernel
theorem dX7_readAlign_27 : decode cX7_readAlign 27 = .ok (.getfield 15, 3) := by decide +kernel
theorem dX7_readAlign_30 : decode cX7_readAlign 30 = .ok (.iload_n 1, 1) := by decide +kernel
theorem dX7_readAlign_31 : decode cX7_readAlign 31 = .ok (.invokevirtual 66, 3) := by decide +kernel
theorem dX7_readAlign_34 : decode cX7_readAlign 34 = .ok (.ifCond .eq 9, 3) := by decide +kernel
theorem dX7_readAlign_37 : decode cX7_readAlign 37 = .ok (.aload_n 0, 1) := by decide +kernel
theorem dX7_readAlign_38 : decode cX7_readAlign 38 = .ok (.iconst 5, 1) := by decide +kernel
theorem dX7_readAlign_39 : decode cX7_readAlign 39 = .ok (.invokevirtual 34, 3) := by decide +kernel
theorem dX7_readAlign_42 : decode cX7_readAlign 42 = .ok (.ireturn, 1) := by decide +kernel
theorem dX7_readAlign_43 : decode cX7_readAlign 43 = .ok (.aload_n 0, 1) := by decide +kernel
theorem dX7_readAlign_44 : decode cX7_readAlign 44 = .ok (.getfield 9, 3) := by decide +kernel
theorem dX7_readAlign_47 : decode cX7_readAlign 47 = .ok (.invokevirtual 19, 3) := by decide +kernel
theorem dX7_readAlign_50 : decode cX7_readAlign 50 = .ok (.aload_n 0, 1) := by decide +kernel
theorem dX7_readAlign_51 : decode cX7_readAlign 51 = .ok (.lconst 0, 1) := by decide +kernel
theorem dX7_readAlign_52 : decode cX7_readAlign 52 = .ok (.ldc2_w 69, 3) := by decide +kernel
theorem dX7_readAlign_55 : decode cX7_readAlign 55 = .ok (.invokevirtual 71, 3) := by decide +kernel
theorem dX7_readAlign_58 : decode cX7_readAlign 58 = .ok (.ifCond .ne 5, 3) := by decide +kernel
theorem dX7_readAlign_61 : decode cX7_readAlign 61 = .ok (.iconst 0, 1) := by decide +kernel
theorem dX7_readAlign_62 : decode cX7_readAlign 62 = .ok (.ireturn, 1) := by decide +kernel
theorem dX7_readAlign_63 : decode cX7_readAlign 63 = .ok (.aload_n 0, 1) := by decide +kernel
theorem dX7_readAlign_64 : decode cX7_readAlign 64 = .ok (.getfield 15, 3) := by decide +kernel
theorem dX7_readAlign_67 : decode cX7_readAlign 67 = .ok (.getfield 74, 3) := by decide +kernel
theorem dX7_readAlign_70 : decode cX7_readAlign 70 = .ok (.iload_n 1, 1) := by decide +kernel
theorem dX7_readAlign_71 : decode cX7_readAlign 71 = .ok (.aload_n 0, 1) := by decide +kernel
theorem dX7_readAlign_72 : decode cX7_readAlign 72 = .ok (.getfield 62, 3) := by decide +kernel
theorem dX7_readAlign_75 : decode cX7_readAlign 75 = .ok (.lastore, 1) := by decide +kernel
theorem dX7_readAlign_76 : decode cX7_readAlign 76 = .ok (.aload_n 0, 1) := by decide +kernel
theorem dX7_readAlign_77 : decode cX7_readAlign 77 = .ok (.bipush 59, 2) := by decide +kernel
theorem dX7_readAlign_79 : decode cX7_readAlign 79 = .ok (.invokevirtual 78, 3) := by decide +kernel
theorem dX7_readAlign_82 : decode cX7_readAlign 82 = .ok (.ireturn, 1) := by decide +kernel
theorem dX7_readBeginning_0 : decode cX7_readBeginning 0 = .ok (.aload_n 0, 1) := by decide +kernel
theorem dX7_readBeginning_1 : decode cX7_readBeginning 1 = .ok (.getfield 9, 3) := by decide +kernel
theorem dX7_readBeginning_4 : decode cX7_readBeginning 4 = .ok (.getfield 81, 3) := by decide +kernel
theorem dX7_readBeginning_7 : decode cX7_readBeginning 7 = .ok (.lstore_n 2, 1) := by decide +kernel
theorem dX7_readBeginning_8 : decode cX7_readBeginning 8 = .ok (.aload_n 0, 1) := by decide +kernel
theorem dX7_readBeginning_9 : decode cX7_readBeginning 9 = .ok (.getfield 9, 3) := by decide +kernel
theorem dX7_readBeginning_12 : decode cX7_readBeginning 12 = .ok (.getfield 24, 3) := by decide +kernel
theorem dX7_readBeginning_15 : decode cX7_readBeginning 15 = .ok (.iconst 3, 1) := by decide +kernel
theorem dX7_readBeginning_16 : decode cX7_readBeginning 16 = .ok (.if_icmp .eq 10, 3) := by decide +kernel
theorem dX7_readBeginning_19 : decode cX7_readBeginning 19 = .ok (.aload_n 0, 1) := by decide +kernel
theorem dX7_readBeginning_20 : decode cX7_readBeginning 20 = .ok (.invokevirtual 84, 3) := by decide +kernel
theorem dX7_readBeginning_23 : decode cX7_readBeginning 23 = .ok (.pop, 1) := by decide +kernel
theorem dX7_readBeginning_24 : decode cX7_readBeginning 24 = .ok (.aconst_null, 1) := by decide +kernel
theorem dX7_readBeginning_25 : decode cX7_readBeginning 25 = .ok (.areturn, 1) := by decide +kernel
theorem dX7_readBeginning_26 : decode cX7_readBeginning 26 = .ok (.aload_n 0, 1) := by decide +kernel
theorem dX7_readBeginning_27 : decode cX7_readBeginning 27 = .ok (.getfield 15, 3) := by decide +kernel
theorem dX7_readBeginning_30 : decode cX7_readBeginning 30 = .ok (.lload_n 2, 1) := by decide +kernel
theorem dX7_readBeginning_31 : decode cX7_readBeginning 31 = .ok (.invokevirtual 87, 3) := by decide +kernel
theorem dX7_readBeginning_34 : decode cX7_readBeginning 34 = .ok (.ifnull 11, 3) := by decide +kernel
theorem dX7_readBeginning_37 : decode cX7_readBeginning 37 = .ok (.aload_n 0, 1) := by decide +kernel
theorem dX7_readBeginning_38 : decode cX7_readBeginning 38 = .ok (.iconst 3, 1) := by decide +kernel
theorem dX7_readBeginning_39 : decode cX7_readBeginning 39 = .ok (.invokevirtual 34, 3) := by decide +kernel
theorem dX7_readBeginning_42 : decode cX7_readBeginning 42 = .ok (.pop, 1) := by decide +kernel
theorem dX7_readBeginning_43 : decode cX7_readBeginning 43 = .ok (.aconst_null, 1) := by decide +kernel
theorem dX7_readBeginning_44 : decode cX7_readBeginning 44 = .ok (.areturn, 1) := by decide +kernel
theorem dX7_readBeginning_45 : decode cX7_readBeginning 45 = .ok (.iload_n 1, 1) := by decide +kernel
theorem dX7_readBeginning_46 : decode cX7_readBeginning 46 = .ok (.ifCond .ne 15, 3) := by decide +kernel
theorem dX7_readBeginning_49 : decode cX7_readBeginning 49 = .ok (.aload_n 0, 1) := by decide +kernel
theorem dX7_readBeginning_50 : decode cX7_readBeginning 50 = .ok (.getfield 15, 3) := by decide +kernel
theorem dX7_readBeginning_53 : decode cX7_readBeginning 53 = .ok (.getfield 91, 3) := by decide +kernel
theorem dX7_readBeginning_56 : decode cX7_readBeginning 56 = .ok (.bipush 12, 2) := by decide +kernel
theorem dX7_readBeginning_58 : decode cX7_readBeginning 58 = .ok (.if_icmp .lt 12, 3) := by decide +kernel
theorem dX7_readBeginning_61 : decode cX7_readBeginning 61 = .ok (.aload_n 0, 1) := by decide +kernel
theorem dX7_readBeginning_62 : decode cX7_readBeginning 62 = .ok (.bipush 6, 2) := by decide +kernel
theorem dX7_readBeginning_64 : decode cX7_readBeginning 64 = .ok (.invokevirtual 34, 3) := by decide +kernel
theorem dX7_readBeginning_67 : decode cX7_readBeginning 67 = .ok (.pop, 1) := by decide +kernel
theorem dX7_readBeginning_68 : decode cX7_readBeginning 68 = .ok (.aconst_null, 1) := by decide +kernel
theorem dX7_readBeginning_69 : decode cX7_readBeginning 69 = .ok (.areturn, 1) := by decide +kernel
theorem dX7_readBeginning_70 : decode cX7_readBeginning 70 = .ok (.aload_n 0, 1) := by decide +kernel
theorem dX7_readBeginning_71 : decode cX7_readBeginning 71 = .ok (.getfield 9, 3) := by decide +kernel
theorem dX7_readBeginning_74 : decode cX7_readBeginning 74 = .ok (.invokevirtual 19, 3) := by decide +kernel
theorem dX7_readBeginning_77 : decode cX7_readBeginning 77 = .ok (.aload_n 0, 1) := by decide +kernel
theorem dX7_readBeginning_78 : decode cX7_readBeginning 78 = .ok (.bipush 61, 2) := by decide +kernel
theorem dX7_readBeginning_80 : decode cX7_readBeginning 80 = .ok (.invokevirtual 78, 3) := by decide +kernel
theorem dX7_readBeginning_83 : decode cX7_readBeginning 83 = .ok (.ifCond .ne 5, 3) := by decide +kernel
theorem dX7_readBeginning_86 : decode cX7_readBeginning 86 = .ok (.aconst_null, 1) := by decide +kernel
theorem dX7_readBeginning_87 : decode cX7_readBeginning 87 = .ok (.areturn, 1) := by decide +kernel
theorem dX7_readBeginning_88 : decode cX7_readBeginning 88 = .ok (.new 94, 3) := by decide +kernel
theorem dX7_readBeginning_91 : decode cX7_readBeginning 91 = .ok (.dup, 1) := by decide +kernel
theorem dX7_readBeginning_92 : decode cX7_readBeginning 92 = .ok (.aload_n 0, 1) := by decide +kernel
theorem dX7_readBeginning_93 : decode cX7_readBeginning 93 = .ok (.getfield 15, 3) := by decide +kernel
theorem dX7_readBeginning_96 : decode cX7_readBeginning 96 = .ok (.getfield 91, 3) := by decide +kernel
theorem dX7_readBeginning_99 : decode cX7_readBeginning 99 = .ok (.lload_n 2, 1) := by decide +kernel
theorem dX7_readBeginning_100 : decode cX7_readBeginning 100 = .ok (.aload_n 0, 1) := by decide +kernel
theorem dX7_readBeginning_101 : decode cX7_readBeginning 101 = .ok (.getfield 9, 3) := by decide +kernel
theorem dX7_readBeginning_104 : decode cX7_readBeginning 104 = .ok (.getfield 81, 3) := by decide +kernel
theorem dX7_readBeginning_107 : decode cX7_readBeginning 107 = .ok (.invokespecial 96, 3) := by decide +kernel
theorem dX7_readBeginning_110 : decode cX7_readBeginning 110 = .ok (.areturn, 1) := by decide +kernel
theorem dX7_readKind_0 : decode cX7_readKind 0 = .ok (.aload_n 0, 1) := by decide +kernel
theorem dX7_readKind_1 : decode cX7_readKind 1 = .ok (.ldc2_w 99, 3) := by decide +kernel
theorem dX7_readKind_4 : decode cX7_readKind 4 = .ok (.invokevirtual 30, 3) := by decide +kernel
theorem dX7_readKind_7 : decode cX7_readKind 7 = .ok (.ifCond .eq 9, 3) := by decide +kernel
theorem dX7_readKind_10 : decode cX7_readKind 10 = .ok (.aload_n 0, 1) := by decide +kernel
theorem dX7_readKind_11 : decode cX7_readKind 11 = .ok (.aload_n 1, 1) := by decide +kernel
theorem dX7_readKind_12 : decode cX7_readKind 12 = .ok (.invokevirtual 101, 3) := by decide +kernel
theorem dX7_readKind_15 : decode cX7_readKind 15 = .ok (.ireturn, 1) := by decide +kernel
theorem dX7_readKind_16 : decode cX7_readKind 16 = .ok (.aload_n 0, 1) := by decide +kernel
theorem dX7_readKind_17 : decode cX7_readKind 17 = .ok (.ldc2_w 104, 3) := by decide +kernel
theorem dX7_readKind_20 : decode cX7_readKind 20 = .ok (.invokevirtual 30, 3) := by decide +kernel
theorem dX7_readKind_23 : decode cX7_readKind 23 = .ok (.ifCond .eq 9, 3) := by decide +kernel
theorem dX7_readKind_26 : decode cX7_readKind 26 = .ok (.aload_n 0, 1) := by decide +kernel
theorem dX7_readKind_27 : decode cX7_readKind 27 = .ok (.aload_n 1, 1) := by decide +kernel
theorem dX7_readKind_28 : decode cX7_readKind 28 = .ok (.invokevirtual 106, 3) := by decide +kernel
theorem dX7_readKind_31 : decode cX7_readKind 31 = .ok (.ireturn, 1) := by decide +kernel
theorem dX7_readKind_32 : decode cX7_readKind 32 = .ok (.aload_n 0, 1) := by decide +kernel
theorem dX7_readKind_33 : decode cX7_readKind 33 = .ok (.ldc2_w 109, 3) := by decide +kernel
theorem dX7_readKind_36 : decode cX7_readKind 36 = .ok (.invokevirtual 30, 3) := by decide +kernel
theorem dX7_readKind_39 : decode cX7_readKind 39 = .ok (.ifCond .eq 9, 3) := by decide +kernel
theorem dX7_readKind_42 : decode cX7_readKind 42 = .ok (.aload_n 0, 1) := by decide +kernel
theorem dX7_readKind_43 : decode cX7_readKind 43 = .ok (.aload_n 1, 1) := by decide +kernel
theorem dX7_readKind_44 : decode cX7_readKind 44 = .ok (.invokevirtual 111, 3) := by decide +kernel
theorem dX7_readKind_47 : decode cX7_readKind 47 = .ok (.ireturn, 1) := by decide +kernel
theorem dX7_readKind_48 : decode cX7_readKind 48 = .ok (.aload_n 0, 1) := by decide +kernel
theorem dX7_readKind_49 : decode cX7_readKind 49 = .ok (.ldc2_w 114, 3) := by decide +kernel
theorem dX7_readKind_52 : decode cX7_readKind 52 = .ok (.invokevirtual 30, 3) := by decide +kernel
theorem dX7_readKind_55 : decode cX7_readKind 55 = .ok (.ifCond .eq 33, 3) := by decide +kernel
theorem dX7_readKind_58 : decode cX7_readKind 58 = .ok (.aload_n 0, 1) := by decide +kernel
theorem dX7_readKind_59 : decode cX7_readKind 59 = .ok (.getfield 9, 3) := by decide +kernel
theorem dX7_readKind_62 : decode cX7_readKind 62 = .ok (.invokevirtual 19, 3) := by decide +kernel
theorem dX7_readKind_65 : decode cX7_readKind 65 = .ok (.aload_n 0, 1) := by decide +kernel
theorem dX7_readKind_66 : decode cX7_readKind 66 = .ok (.aload_n 1, 1) := by decide +kernel
theorem dX7_readKind_67 : decode cX7_readKind 67 = .ok (.invokevirtual 116, 3) := by decide +kernel
theorem dX7_readKind_70 : decode cX7_readKind 70 = .ok (.ifCond .eq 16, 3) := by decide +kernel
theorem dX7_readKind_73 : decode cX7_readKind 73 = .ok (.aload_n 0, 1) := by decide +kernel
theorem dX7_readKind_74 : decode cX7_readKind 74 = .ok (.bipush 59, 2) := by decide +kernel
theorem dX7_readKind_76 : decode cX7_readKind 76 = .ok (.invokevirtual 78, 3) := by decide +kernel
theorem dX7_readKind_79 : decode cX7_readKind 79 = .ok (.ifCond .eq 7, 3) := by decide +kernel
theorem dX7_readKind_82 : decode cX7_readKind 82 = .ok (.iconst 1, 1) := by decide +kernel
theorem dX7_readKind_83 : decode cX7_readKind 83 = .ok (.goto 4, 3) := by decide +kernel
theorem dX7_readKind_86 : decode cX7_readKind 86 = .ok (.iconst 0, 1) := by decide +kernel
theorem dX7_readKind_87 : decode cX7_readKind 87 = .ok (.ireturn, 1) := by decide +kernel
theorem dX7_readKind_88 : decode cX7_readKind 88 = .ok (.aload_n 0, 1) := by decide +kernel
theorem dX7_readKind_89 : decode cX7_readKind 89 = .ok (.ldc2_w 119, 3) := by decide +kernel
theorem dX7_readKind_92 : decode cX7_readKind 92 = .ok (.invokevirtual 30, 3) := by decide +kernel
theorem dX7_readKind_95 : decode cX7_readKind 95 = .ok (.ifCond .eq 26, 3) := by decide +kernel
theorem dX7_readKind_98 : decode cX7_readKind 98 = .ok (.aload_n 0, 1) := by decide +kernel
theorem dX7_readKind_99 : decode cX7_readKind 99 = .ok (.getfield 121, 3) := by decide +kernel
theorem dX7_readKind_102 : decode cX7_readKind 102 = .ok (.iconst 3, 1) := by decide +kernel
theorem dX7_readKind_103 : decode cX7_readKind 103 = .ok (.if_icmp .ne 12, 3) := by decide +kernel
theorem dX7_readKind_106 : decode cX7_readKind 106 = .ok (.aload_n 0, 1) := by decide +kernel
theorem dX7_readKind_107 : decode cX7_readKind 107 = .ok (.bipush 6, 2) := by decide +kernel
theorem dX7_readKind_109 : decode cX7_readKind 109 = .ok (.invokevirtual 34, 3) := by decide +kernel
theorem dX7_readKind_112 : decode cX7_readKind 112 = .ok (.goto 8, 3) := by decide +kernel
theorem dX7_readKind_115 : decode cX7_readKind 115 = .ok (.aload_n 0, 1) := by decide +kernel
theorem dX7_readKind_116 : decode cX7_readKind 116 = .ok (.aload_n 1, 1) := by decide +kernel
theorem dX7_readKind_117 : decode cX7_readKind 117 = .ok (.invokevirtual 124, 3) := by decide +kernel
theorem dX7_readKind_120 : decode cX7_readKind 120 = .ok (.ireturn, 1) := by decide +kernel
theorem dX7_readKind_121 : decode cX7_readKind 121 = .ok (.aload_n 0, 1) := by decide +kernel
theorem dX7_readKind_122 : decode cX7_readKind 122 = .ok (.ldc2_w 127, 3) := by decide +kernel
theorem dX7_readKind_125 : decode cX7_readKind 125 = .ok (.invokevirtual 30, 3) := by decide +kernel
theorem dX7_readKind_128 : decode cX7_readKind 128 = .ok (.ifCond .eq 26, 3) := by decide +kernel
theorem dX7_readKind_131 : decode cX7_readKind 131 = .ok (.aload_n 0, 1) := by decide +kernel
theorem dX7_readKind_132 : decode cX7_readKind 132 = .ok (.getfield 129, 3) := by decide +kernel
theorem dX7_readKind_135 : decode cX7_readKind 135 = .ok (.iconst 3, 1) := by decide +kernel
theorem dX7_readKind_136 : decode cX7_readKind 136 = .ok (.if_icmp .ne 12, 3) := by decide +kernel
theorem dX7_readKind_139 : decode cX7_readKind 139 = .ok (.aload_n 0, 1) := by decide +kernel
theorem dX7_readKind_140 : decode cX7_readKind 140 = .ok (.bipush 6, 2) := by decide +kernel
theorem dX7_readKind_142 : decode cX7_readKind 142 = .ok (.invokevirtual 34, 3) := by decide +kernel
theorem dX7_readKind_145 : decode cX7_readKind 145 = .ok (.goto 8, 3) := by decide +kernel
theorem dX7_readKind_148 : decode cX7_readKind 148 = .ok (.aload_n 0, 1) := by decide +kernel
theorem dX7_readKind_149 : decode cX7_readKind 149 = .ok (.aload_n 1, 1) := by decide +kernel
theorem dX7_readKind_150 : decode cX7_readKind 150 = .ok (.invokevirtual 132, 3) := by decide +kernel
theorem dX7_readKind_153 : decode cX7_readKind 153 = .ok (.ireturn, 1) := by decide +kernel
theorem dX7_readKind_154 : decode cX7_readKind 154 = .ok (.aload_n 0, 1) := by decide +kernel
theorem dX7_readKind_155 : decode cX7_readKind 155 = .ok (.invokevirtual 84, 3) := by decide +kernel
theorem dX7_readKind_158 : decode cX7_readKind 158 = .ok (.ireturn, 1) := by decide +kernel
theorem dX7_readSource_0 : decode cX7_readSource 0 = .ok (.aload_n 0, 1) := by decide +kernel
theorem dX7_readSource_1 : decode cX7_readSource 1 = .ok (.getfield 9, 3) := by decide +kernel
theorem dX7_readSource_4 : decode cX7_readSource 4 = .ok (.invokevirtual 19, 3) := by decide +kernel
theorem dX7_readSource_7 : decode cX7_readSource 7 = .ok (.aload_n 0, 1) := by decide +kernel
theorem dX7_readSource_8 : decode cX7_readSource 8 = .ok (.lconst 1, 1) := by decide +kernel
theorem dX7_readSource_9 : decode cX7_readSource 9 = .ok (.ldc2_w 135, 3) := by decide +kernel
theorem dX7_readSource_12 : decode cX7_readSource 12 = .ok (.invokevirtual 71, 3) := by decide +kernel
theorem dX7_readSource_15 : decode cX7_readSource 15 = .ok (.ifCond .ne 5, 3) := by decide +kernel
theorem dX7_readSource_18 : decode cX7_readSource 18 = .ok (.iconst 0, 1) := by decide +kernel
theorem dX7_readSource_19 : decode cX7_readSource 19 = .ok (.ireturn, 1) := by decide +kernel
theorem dX7_readSource_20 : decode cX7_readSource 20 = .ok (.aload_n 0, 1) := by decide +kernel
theorem dX7_readSource_21 : decode cX7_readSource 21 = .ok (.getfield 62, 3) := by decide +kernel
theorem dX7_readSource_24 : decode cX7_readSource 24 = .ok (.l2i, 1) := by decide +kernel
theorem dX7_readSource_25 : decode cX7_readSource 25 = .ok (.istore_n 2, 1) := by decide +kernel
theorem dX7_readSource_26 : decode cX7_readSource 26 = .ok (.ldc2_w 139, 3) := by decide +kernel
theorem dX7_readSource_29 : decode cX7_readSource 29 = .ok (.lstore_n 3, 1) := by decide +kernel
theorem dX7_readSource_30 : decode cX7_readSource 30 = .ok (.aload_n 0, 1) := by decide +kernel
theorem dX7_readSource_31 : decode cX7_readSource 31 = .ok (.ldc2_w 141, 3) := by decide +kernel
theorem dX7_readSource_34 : decode cX7_readSource 34 = .ok (.invokevirtual 30, 3) := by decide +kernel
theorem dX7_readSource_37 : decode cX7_readSource 37 = .ok (.ifCond .eq 31, 3) := by decide +kernel
theorem dX7_readSource_40 : decode cX7_readSource 40 = .ok (.aload_n 0, 1) := by decide +kernel
theorem dX7_readSource_41 : decode cX7_readSource 41 = .ok (.getfield 9, 3) := by decide +kernel
theorem dX7_readSource_44 : decode cX7_readSource 44 = .ok (.invokevirtual 19, 3) := by decide +kernel
theorem dX7_readSource_47 : decode cX7_readSource 47 = .ok (.aload_n 0, 1) := by decide +kernel
theorem dX7_readSource_48 : decode cX7_readSource 48 = .ok (.lconst 0, 1) := by decide +kernel
theorem dX7_readSource_49 : decode cX7_readSource 49 = .ok (.ldc2_w 69, 3) := by decide +kernel
theorem dX7_readSource_52 : decode cX7_readSource 52 = .ok (.invokevirtual 71, 3) := by decide +kernel
theorem dX7_readSource_55 : decode cX7_readSource 55 = .ok (.ifCond .ne 5, 3) := by decide +kernel
theorem dX7_readSource_58 : decode cX7_readSource 58 = .ok (.iconst 0, 1) := by decide +kernel
theorem dX7_readSource_59 : decode cX7_readSource 59 = .ok (.ireturn, 1) := by decide +kernel
theorem dX7_readSource_60 : decode cX7_readSource 60 = .ok (.aload_n 0, 1) := by decide +kernel
theorem dX7_readSource_61 : decode cX7_readSource 61 = .ok (.getfield 62, 3) := by decide +kernel
theorem dX7_readSource_64 : decode cX7_readSource 64 = .ok (.lstore_n 3, 1) := by decide +kernel
theorem dX7_readSource_65 : decode cX7_readSource 65 = .ok (.goto 15, 3) := by decide +kernel
theorem dX7_readSource_68 : decode cX7_readSource 68 = .ok (.aload_n 0, 1) := by decide +kernel
theorem dX7_readSource_69 : decode cX7_readSource 69 = .ok (.ldc2_w 143, 3) := by decide +kernel
theorem dX7_readSource_72 : decode cX7_readSource 72 = .ok (.invokevirtual 145, 3) := by decide +kernel
theorem dX7_readSource_75 : decode cX7_readSource 75 = .ok (.ifCond .ne 5, 3) := by decide +kernel
theorem dX7_readSource_78 : decode cX7_readSource 78 = .ok (.iconst 0, 1) := by decide +kernel
theorem dX7_readSource_79 : decode cX7_readSource 79 = .ok (.ireturn, 1) := by decide +kernel
theorem dX7_readSource_80 : decode cX7_readSource 80 = .ok (.iconst 0, 1) := by decide +kernel
theorem dX7_readSource_81 : decode cX7_readSource 81 = .ok (.istore 5, 2) := by decide +kernel
theorem dX7_readSource_83 : decode cX7_readSource 83 = .ok (.aload_n 0, 1) := by decide +kernel
theorem dX7_readSource_84 : decode cX7_readSource 84 = .ok (.ldc2_w 148, 3) := by decide +kernel
theorem dX7_readSource_87 : decode cX7_readSource 87 = .ok (.invokevirtual 30, 3) := by decide +kernel
theorem dX7_readSource_90 : decode cX7_readSource 90 = .ok (.ifCond .eq 30, 3) := by decide +kernel
theorem dX7_readSource_93 : decode cX7_readSource 93 = .ok (.aload_n 0, 1) := by decide +kernel
theorem dX7_readSource_94 : decode cX7_readSource 94 = .ok (.getfield 9, 3) := by decide +kernel
theorem dX7_readSource_97 : decode cX7_readSource 97 = .ok (.invokevirtual 19, 3) := by decide +kernel
theorem dX7_readSource_100 : decode cX7_readSource 100 = .ok (.aload_n 0, 1) := by decide +kernel
theorem dX7_readSource_101 : decode cX7_readSource 101 = .ok (.lconst 1, 1) := by decide +kernel
theorem dX7_readSource_102 : decode cX7_readSource 102 = .ok (.ldc2_w 150, 3) := by decide +kernel
theorem dX7_readSource_105 : decode cX7_readSource 105 = .ok (.invokevirtual 71, 3) := by decide +kernel
theorem dX7_readSource_108 : decode cX7_readSource 108 = .ok (.ifCond .ne 5, 3) := by decide +kernel
theorem dX7_readSource_111 : decode cX7_readSource 111 = .ok (.iconst 0, 1) := by decide +kernel
theorem dX7_readSource_112 : decode cX7_readSource 112 = .ok (.ireturn, 1) := by decide +kernel
theorem dX7_readSource_113 : decode cX7_readSource 113 = .ok (.aload_n 0, 1) := by decide +kernel
theorem dX7_readSource_114 : decode cX7_readSource 114 = .ok (.getfield 62, 3) := by decide +kernel
theorem dX7_readSource_117 : decode cX7_readSource 117 = .ok (.l2i, 1) := by decide +kernel
theorem dX7_readSource_118 : decode cX7_readSource 118 = .ok (.istore 5, 2) := by decide +kernel
theorem dX7_readSource_120 : decode cX7_readSource 120 = .ok (.iconst (-1), 1) := by decide +kernel
theorem dX7_readSource_121 : decode cX7_readSource 121 = .ok (.istore 6, 2) := by decide +kernel
theorem dX7_readSource_123 : decode cX7_readSource 123 = .ok (.aload_n 0, 1) := by decide +kernel
theorem dX7_readSource_124 : decode cX7_readSource 124 = .ok (.ldc2_w 152, 3) := by decide +kernel
theorem dX7_readSource_127 : decode cX7_readSource 127 = .ok (.invokevirtual 30, 3) := by decide +kernel
theorem dX7_readSource_130 : decode cX7_readSource 130 = .ok (.ifCond .eq 30, 3) := by decide +kernel
theorem dX7_readSource_133 : decode cX7_readSource 133 = .ok (.aload_n 0, 1) := by decide +kernel
theorem dX7_readSource_134 : decode cX7_readSource 134 = .ok (.getfield 9, 3) := by decide +kernel
theorem dX7_readSource_137 : decode cX7_readSource 137 = .ok (.invokevirtual 19, 3) := by decide +kernel
theorem dX7_readSource_140 : decode cX7_readSource 140 = .ok (.aload_n 0, 1) := by decide +kernel
theorem dX7_readSource_141 : decode cX7_readSource 141 = .ok (.lconst 0, 1) := by decide +kernel
theorem dX7_readSource_142 : decode cX7_readSource 142 = .ok (.ldc2_w 56, 3) := by decide +kernel
theorem dX7_readSource_145 : decode cX7_readSource 145 = .ok (.invokevirtual 71, 3) := by decide +kernel
theorem dX7_readSource_148 : decode cX7_readSource 148 = .ok (.ifCond .ne 5, 3) := by decide +kernel
theorem dX7_readSource_151 : decode cX7_readSource 151 = .ok (.iconst 0, 1) := by decide +kernel
theorem dX7_readSource_152 : decode cX7_readSource 152 = .ok (.ireturn, 1) := by decide +kernel
theorem dX7_readSource_153 : decode cX7_readSource 153 = .ok (.aload_n 0, 1) := by decide +kernel
theorem dX7_readSource_154 : decode cX7_readSource 154 = .ok (.getfield 62, 3) := by decide +kernel
theorem dX7_readSource_157 : decode cX7_readSource 157 = .ok (.l2i, 1) := by decide +kernel
theorem dX7_readSource_158 : decode cX7_readSource 158 = .ok (.istore 6, 2) := by decide +kernel
theorem dX7_readSource_160 : decode cX7_readSource 160 = .ok (.aload_n 1, 1) := by decide +kernel
theorem dX7_readSource_161 : decode cX7_readSource 161 = .ok (.new 137, 3) := by decide +kernel
theorem dX7_readSource_164 : decode cX7_readSource 164 = .ok (.dup, 1) := by decide +kernel
theorem dX7_readSource_165 : decode cX7_readSource 165 = .ok (.iload_n 2, 1) := by decide +kernel
theorem dX7_readSource_166 : decode cX7_readSource 166 = .ok (.lload_n 3, 1) := by decide +kernel
theorem dX7_readSource_167 : decode cX7_readSource 167 = .ok (.iload 5, 2) := by decide +kernel
theorem dX7_readSource_169 : decode cX7_readSource 169 = .ok (.iload 6, 2) := by decide +kernel
theorem dX7_readSource_171 : decode cX7_readSource 171 = .ok (.invokespecial 154, 3) := by decide +kernel
theorem dX7_readSource_174 : decode cX7_readSource 174 = .ok (.putfield 157, 3) := by decide +kernel
theorem dX7_readSource_177 : decode cX7_readSource 177 = .ok (.aload_n 0, 1) := by decide +kernel
theorem dX7_readSource_178 : decode cX7_readSource 178 = .ok (.bipush 59, 2) := by decide +kernel
theorem dX7_readSource_180 : decode cX7_readSource 180 = .ok (.invokevirtual 78, 3) := by decide +kernel
theorem dX7_readSource_183 : decode cX7_readSource 183 = .ok (.ireturn, 1) := by decide +kernel
theorem dX7_readUnion_0 : decode cX7_readUnion 0 = .ok (.aload_n 0, 1) := by decide +kernel
theorem dX7_readUnion_1 : decode cX7_readUnion 1 = .ok (.getfield 9, 3) := by decide +kernel
theorem dX7_readUnion_4 : decode cX7_readUnion 4 = .ok (.invokevirtual 19, 3) := by decide +kernel
theorem dX7_readUnion_7 : decode cX7_readUnion 7 = .ok (.iconst 0, 1) := by decide +kernel
theorem dX7_readUnion_8 : decode cX7_readUnion 8 = .ok (.istore_n 2, 1) := by decide +kernel
theorem dX7_readUnion_9 : decode cX7_readUnion 9 = .ok (.iload_n 2, 1) := by decide +kernel
theorem dX7_readUnion_10 : decode cX7_readUnion 10 = .ok (.iconst 4, 1) := by decide +kernel
theorem dX7_readUnion_11 : decode cX7_readUnion 11 = .ok (.if_icmp .ge 38, 3) := by decide +kernel
theorem dX7_readUnion_14 : decode cX7_readUnion 14 = .ok (.iload_n 2, 1) := by decide +kernel
theorem dX7_readUnion_15 : decode cX7_readUnion 15 = .ok (.iconst 2, 1) := by decide +kernel
theorem dX7_readUnion_16 : decode cX7_readUnion 16 = .ok (.if_icmp .lt 17, 3) := by decide +kernel
theorem dX7_readUnion_19 : decode cX7_readUnion 19 = .ok (.aload_n 0, 1) := by decide +kernel
theorem dX7_readUnion_20 : decode cX7_readUnion 20 = .ok (.getfield 9, 3) := by decide +kernel
theorem dX7_readUnion_23 : decode cX7_readUnion 23 = .ok (.getfield 24, 3) := by decide +kernel
theorem dX7_readUnion_26 : decode cX7_readUnion 26 = .ok (.iconst 3, 1) := by decide +kernel
theorem dX7_readUnion_27 : decode cX7_readUnion 27 = .ok (.if_icmp .eq 6, 3) := by decide +kernel
theorem dX7_readUnion_30 : decode cX7_readUnion 30 = .ok (.goto 19, 3) := by decide +kernel
theorem dX7_readUnion_33 : decode cX7_readUnion 33 = .ok (.aload_n 0, 1) := by decide +kernel
theorem dX7_readUnion_34 : decode cX7_readUnion 34 = .ok (.aload_n 1, 1) := by decide +kernel
theorem dX7_readUnion_35 : decode cX7_readUnion 35 = .ok (.invokevirtual 116, 3) := by decide +kernel
theorem dX7_readUnion_38 : decode cX7_readUnion 38 = .ok (.ifCond .ne 5, 3) := by decide +kernel
theorem dX7_readUnion_41 : decode cX7_readUnion 41 = .ok (.iconst 0, 1) := by decide +kernel
theorem dX7_readUnion_42 : decode cX7_readUnion 42 = .ok (.ireturn, 1) := by decide +kernel
theorem dX7_readUnion_43 : decode cX7_readUnion 43 = .ok (.iinc 2 1, 3) := by decide +kernel
theorem dX7_readUnion_46 : decode cX7_readUnion 46 = .ok (.goto (-37), 3) := by decide +kernel
theorem dX7_readUnion_49 : decode cX7_readUnion 49 = .ok (.aload_n 0, 1) := by decide +kernel
theorem dX7_readUnion_50 : decode cX7_readUnion 50 = .ok (.bipush 59, 2) := by decide +kernel
theorem dX7_readUnion_52 : decode cX7_readUnion 52 = .ok (.invokevirtual 78, 3) := by decide +kernel
theorem dX7_readUnion_55 : decode cX7_readUnion 55 = .ok (.ireturn, 1) := by decide +kernel
theorem dX7_readDelay_0 : decode cX7_readDelay 0 = .ok (.aload_n 0, 1) := by decide +kernel
theorem dX7_readDelay_1 : decode cX7_readDelay 1 = .ok (.getfield 9, 3) := by decide +kernel
theorem dX7_readDelay_4 : decode cX7_readDelay 4 = .ok (.invokevirtual 19, 3) := by decide +kernel
theorem dX7_readDelay_7 : decode cX7_readDelay 7 = .ok (.aload_n 0, 1) := by decide +kernel
theorem dX7_readDelay_8 : decode cX7_readDelay 8 = .ok (.aload_n 1, 1) := by decide +kernel
theorem dX7_readDelay_9 : decode cX7_readDelay 9 = .ok (.invokevirtual 116, 3) := by decide +kernel
theorem dX7_readDelay_12 : decode cX7_readDelay 12 = .ok (.ifCond .eq 14, 3) := by decide +kernel
theorem dX7_readDelay_15 : decode cX7_readDelay 15 = .ok (.aload_n 0, 1) := by decide +kernel
theorem dX7_readDelay_16 : decode cX7_readDelay 16 = .ok (.lconst 0, 1) := by decide +kernel
theorem dX7_readDelay_17 : decode cX7_readDelay 17 = .ok (.ldc2_w 69, 3) := by decide +kernel
theorem dX7_readDelay_20 : decode cX7_readDelay 20 = .ok (.invokevirtual 71, 3) := by decide +kernel
theorem dX7_readDelay_23 : decode cX7_readDelay 23 = .ok (.ifCond .ne 5, 3) := by decide +kernel
theorem dX7_readDelay_26 : decode cX7_readDelay 26 = .ok (.iconst 0, 1) := by decide +kernel
theorem dX7_readDelay_27 : decode cX7_readDelay 27 = .ok (.ireturn, 1) := by decide +kernel
theorem dX7_readDelay_28 : decode cX7_readDelay 28 = .ok (.aload_n 1, 1) := by decide +kernel
theorem dX7_readDelay_29 : decode cX7_readDelay 29 = .ok (.aload_n 0, 1) := by decide +kernel
theorem dX7_readDelay_30 : decode cX7_readDelay 30 = .ok (.getfield 62, 3) := by decide +kernel
theorem dX7_readDelay_33 : decode cX7_readDelay 33 = .ok (.putfield 161, 3) := by decide +kernel
theorem dX7_readDelay_36 : decode cX7_readDelay 36 = .ok (.aload_n 0, 1) := by decide +kernel
theorem dX7_readDelay_37 : decode cX7_readDelay 37 = .ok (.bipush 59, 2) := by decide +kernel
theorem dX7_readDelay_39 : decode cX7_readDelay 39 = .ok (.invokevirtual 78, 3) := by decide +kernel
theorem dX7_readDelay_42 : decode cX7_readDelay 42 = .ok (.ireturn, 1) := by decide +kernel
theorem dX7_readJoin_0 : decode cX7_readJoin 0 = .ok (.aload_n 0, 1) := by decide +kernel
theorem dX7_readJoin_1 : decode cX7_readJoin 1 = .ok (.dup, 1) := by decide +kernel
theorem dX7_readJoin_2 : decode cX7_readJoin 2 = .ok (.getfield 121, 3) := by decide +kernel
theorem dX7_readJoin_5 : decode cX7_readJoin 5 = .ok (.iconst 1, 1) := by decide +kernel
theorem dX7_readJoin_6 : decode cX7_readJoin 6 = .ok (.iadd, 1) := by decide +kernel
theorem dX7_readJoin_7 : decode cX7_readJoin 7 = .ok (.putfield 121, 3) := by decide +kernel
theorem dX7_readJoin_10 : decode cX7_readJoin 10 = .ok (.aload_n 0, 1) := by decide +kernel
theorem dX7_readJoin_11 : decode cX7_readJoin 11 = .ok (.getfield 9, 3) := by decide +kernel
theorem dX7_readJoin_14 : decode cX7_readJoin 14 = .ok (.invokevirtual 19, 3) := by decide +kernel
theorem dX7_readJoin_17 : decode cX7_readJoin 17 = .ok (.aload_n 0, 1) := by decide +kernel
theorem dX7_readJoin_18 : decode cX7_readJoin 18 = .ok (.aload_n 1, 1) := by decide +kernel
theorem dX7_readJoin_19 : decode cX7_readJoin 19 = .ok (.invokevirtual 116, 3) := by decide +kernel
theorem dX7_readJoin_22 : decode cX7_readJoin 22 = .ok (.ifCond .eq 11, 3) := by decide +kernel
theorem dX7_readJoin_25 : decode cX7_readJoin 25 = .ok (.aload_n 0, 1) := by decide +kernel
theorem dX7_readJoin_26 : decode cX7_readJoin 26 = .ok (.aload_n 1, 1) := by decide +kernel
theorem dX7_readJoin_27 : decode cX7_readJoin 27 = .ok (.invokevirtual 116, 3) := by decide +kernel
theorem dX7_readJoin_30 : decode cX7_readJoin 30 = .ok (.ifCond .ne 5, 3) := by decide +kernel
theorem dX7_readJoin_33 : decode cX7_readJoin 33 = .ok (.iconst 0, 1) := by decide +kernel
theorem dX7_readJoin_34 : decode cX7_readJoin 34 = .ok (.ireturn, 1) := by decide +kernel
theorem dX7_readJoin_35 : decode cX7_readJoin 35 = .ok (.aload_n 0, 1) := by decide +kernel
theorem dX7_readJoin_36 : decode cX7_readJoin 36 = .ok (.ldc2_w 164, 3) := by decide +kernel
theorem dX7_readJoin_39 : decode cX7_readJoin 39 = .ok (.invokevirtual 145, 3) := by decide +kernel
theorem dX7_readJoin_42 : decode cX7_readJoin 42 = .ok (.ifCond .eq 13, 3) := by decide +kernel
theorem dX7_readJoin_45 : decode cX7_readJoin 45 = .ok (.aload_n 0, 1) := by decide +kernel
theorem dX7_readJoin_46 : decode cX7_readJoin 46 = .ok (.ldc2_w 166, 3) := by decide +kernel
theorem dX7_readJoin_49 : decode cX7_readJoin 49 = .ok (.invokevirtual 168, 3) := by decide +kernel
theorem dX7_readJoin_52 : decode cX7_readJoin 52 = .ok (.ifCond .ne 5, 3) := by decide +kernel
theorem dX7_readJoin_55 : decode cX7_readJoin 55 = .ok (.iconst 0, 1) := by decide +kernel
theorem dX7_readJoin_56 : decode cX7_readJoin 56 = .ok (.ireturn, 1) := by decide +kernel
theorem dX7_readJoin_57 : decode cX7_readJoin 57 = .ok (.aload_n 0, 1) := by decide +kernel
theorem dX7_readJoin_58 : decode cX7_readJoin 58 = .ok (.getfield 62, 3) := by decide +kernel
theorem dX7_readJoin_61 : decode cX7_readJoin 61 = .ok (.lstore_n 2, 1) := by decide +kernel
theorem dX7_readJoin_62 : decode cX7_readJoin 62 = .ok (.aload_n 0, 1) := by decide +kernel
theorem dX7_readJoin_63 : decode cX7_readJoin 63 = .ok (.ldc2_w 171, 3) := by decide +kernel
theorem dX7_readJoin_66 : decode cX7_readJoin 66 = .ok (.invokevirtual 145, 3) := by decide +kernel
theorem dX7_readJoin_69 : decode cX7_readJoin 69 = .ok (.ifCond .eq 11, 3) := by decide +kernel
theorem dX7_readJoin_72 : decode cX7_readJoin 72 = .ok (.aload_n 0, 1) := by decide +kernel
theorem dX7_readJoin_73 : decode cX7_readJoin 73 = .ok (.lload_n 2, 1) := by decide +kernel
theorem dX7_readJoin_74 : decode cX7_readJoin 74 = .ok (.invokevirtual 168, 3) := by decide +kernel
theorem dX7_readJoin_77 : decode cX7_readJoin 77 = .ok (.ifCond .ne 5, 3) := by decide +kernel
theorem dX7_readJoin_80 : decode cX7_readJoin 80 = .ok (.iconst 0, 1) := by decide +kernel
theorem dX7_readJoin_81 : decode cX7_readJoin 81 = .ok (.ireturn, 1) := by decide +kernel
theorem dX7_readJoin_82 : decode cX7_readJoin 82 = .ok (.aload_n 1, 1) := by decide +kernel
theorem dX7_readJoin_83 : decode cX7_readJoin 83 = .ok (.new 173, 3) := by decide +kernel
theorem dX7_readJoin_86 : decode cX7_readJoin 86 = .ok (.dup, 1) := by decide +kernel
theorem dX7_readJoin_87 : decode cX7_readJoin 87 = .ok (.aload_n 1, 1) := by decide +kernel
theorem dX7_readJoin_88 : decode cX7_readJoin 88 = .ok (.getfield 175, 3) := by decide +kernel
theorem dX7_readJoin_91 : decode cX7_readJoin 91 = .ok (.iconst 0, 1) := by decide +kernel
theorem dX7_readJoin_92 : decode cX7_readJoin 92 = .ok (.aaload, 1) := by decide +kernel
theorem dX7_readJoin_93 : decode cX7_readJoin 93 = .ok (.aload_n 1, 1) := by decide +kernel
theorem dX7_readJoin_94 : decode cX7_readJoin 94 = .ok (.getfield 175, 3) := by decide +kernel
theorem dX7_readJoin_97 : decode cX7_readJoin 97 = .ok (.iconst 1, 1) := by decide +kernel
theorem dX7_readJoin_98 : decode cX7_readJoin 98 = .ok (.aaload, 1) := by decide +kernel
theorem dX7_readJoin_99 : decode cX7_readJoin 99 = .ok (.lload_n 2, 1) := by decide +kernel
theorem dX7_readJoin_100 : decode cX7_readJoin 100 = .ok (.aload_n 0, 1) := by decide +kernel
theorem dX7_readJoin_101 : decode cX7_readJoin 101 = .ok (.getfield 62, 3) := by decide +kernel
theorem dX7_readJoin_104 : decode cX7_readJoin 104 = .ok (.invokespecial 179, 3) := by decide +kernel
theorem dX7_readJoin_107 : decode cX7_readJoin 107 = .ok (.putfield 182, 3) := by decide +kernel
theorem dX7_readJoin_110 : decode cX7_readJoin 110 = .ok (.aload_n 0, 1) := by decide +kernel
theorem dX7_readJoin_111 : decode cX7_readJoin 111 = .ok (.bipush 59, 2) := by decide +kernel
theorem dX7_readJoin_113 : decode cX7_readJoin 113 = .ok (.invokevirtual 78, 3) := by decide +kernel
theorem dX7_readJoin_116 : decode cX7_readJoin 116 = .ok (.ireturn, 1) := by decide +kernel
theorem dX7_readWindow_0 : decode cX7_readWindow 0 = .ok (.aload_n 0, 1) := by decide +kernel
theorem dX7_readWindow_1 : decode cX7_readWindow 1 = .ok (.dup, 1) := by decide +kernel
theorem dX7_readWindow_2 : decode cX7_readWindow 2 = .ok (.getfield 129, 3) := by decide +kernel
theorem dX7_readWindow_5 : decode cX7_readWindow 5 = .ok (.iconst 1, 1) := by decide +kernel
theorem dX7_readWindow_6 : decode cX7_readWindow 6 = .ok (.iadd, 1) := by decide +kernel
theorem dX7_readWindow_7 : decode cX7_readWindow 7 = .ok (.putfield 129, 3) := by decide +kernel
theorem dX7_readWindow_10 : decode cX7_readWindow 10 = .ok (.aload_n 0, 1) := by decide +kernel
theorem dX7_readWindow_11 : decode cX7_readWindow 11 = .ok (.getfield 9, 3) := by decide +kernel
theorem dX7_readWindow_14 : decode cX7_readWindow 14 = .ok (.invokevirtual 19, 3) := by decide +kernel
theorem dX7_readWindow_17 : decode cX7_readWindow 17 = .ok (.aload_n 0, 1) := by decide +kernel
theorem dX7_readWindow_18 : decode cX7_readWindow 18 = .ok (.aload_n 1, 1) := by decide +kernel
theorem dX7_readWindow_19 : decode cX7_readWindow 19 = .ok (.invokevirtual 116, 3) := by decide +kernel
theorem dX7_readWindow_22 : decode cX7_readWindow 22 = .ok (.ifCond .ne 5, 3) := by decide +kernel
theorem dX7_readWindow_25 : decode cX7_readWindow 25 = .ok (.iconst 0, 1) := by decide +kernel
theorem dX7_readWindow_26 : decode cX7_readWindow 26 = .ok (.ireturn, 1) := by decide +kernel
theorem dX7_readWindow_27 : decode cX7_readWindow 27 = .ok (.aload_n 0, 1) := by decide +kernel
theorem dX7_readWindow_28 : decode cX7_readWindow 28 = .ok (.ldc2_w 186, 3) := by decide +kernel
theorem dX7_readWindow_31 : decode cX7_readWindow 31 = .ok (.invokevirtual 145, 3) := by decide +kernel
theorem dX7_readWindow_34 : decode cX7_readWindow 34 = .ok (.ifCond .eq 14, 3) := by decide +kernel
theorem dX7_readWindow_37 : decode cX7_readWindow 37 = .ok (.aload_n 0, 1) := by decide +kernel
theorem dX7_readWindow_38 : decode cX7_readWindow 38 = .ok (.lconst 1, 1) := by decide +kernel
theorem dX7_readWindow_39 : decode cX7_readWindow 39 = .ok (.ldc2_w 188, 3) := by decide +kernel
theorem dX7_readWindow_42 : decode cX7_readWindow 42 = .ok (.invokevirtual 71, 3) := by decide +kernel
theorem dX7_readWindow_45 : decode cX7_readWindow 45 = .ok (.ifCond .ne 5, 3) := by decide +kernel
theorem dX7_readWindow_48 : decode cX7_readWindow 48 = .ok (.iconst 0, 1) := by decide +kernel
theorem dX7_readWindow_49 : decode cX7_readWindow 49 = .ok (.ireturn, 1) := by decide +kernel
theorem dX7_readWindow_50 : decode cX7_readWindow 50 = .ok (.aload_n 0, 1) := by decide +kernel
theorem dX7_readWindow_51 : decode cX7_readWindow 51 = .ok (.getfield 62, 3) := by decide +kernel
theorem dX7_readWindow_54 : decode cX7_readWindow 54 = .ok (.lstore_n 2, 1) := by decide +kernel
theorem dX7_readWindow_55 : decode cX7_readWindow 55 = .ok (.lload_n 2, 1) := by decide +kernel
theorem dX7_readWindow_56 : decode cX7_readWindow 56 = .ok (.ldc2_w 135, 3) := by decide +kernel
theorem dX7_readWindow_59 : decode cX7_readWindow 59 = .ok (.ladd, 1) := by decide +kernel
theorem dX7_readWindow_60 : decode cX7_readWindow 60 = .ok (.lconst 1, 1) := by decide +kernel
theorem dX7_readWindow_61 : decode cX7_readWindow 61 = .ok (.lsub, 1) := by decide +kernel
theorem dX7_readWindow_62 : decode cX7_readWindow 62 = .ok (.ldc2_w 135, 3) := by decide +kernel
theorem dX7_readWindow_65 : decode cX7_readWindow 65 = .ok (.ldiv, 1) := by decide +kernel
theorem dX7_readWindow_66 : decode cX7_readWindow 66 = .ok (.lstore 4, 2) := by decide +kernel
theorem dX7_readWindow_68 : decode cX7_readWindow 68 = .ok (.aload_n 0, 1) := by decide +kernel
theorem dX7_readWindow_69 : decode cX7_readWindow 69 = .ok (.ldc2_w 190, 3) := by decide +kernel
theorem dX7_readWindow_72 : decode cX7_readWindow 72 = .ok (.invokevirtual 145, 3) := by decide +kernel
theorem dX7_readWindow_75 : decode cX7_readWindow 75 = .ok (.ifCond .eq 13, 3) := by decide +kernel
theorem dX7_readWindow_78 : decode cX7_readWindow 78 = .ok (.aload_n 0, 1) := by decide +kernel
theorem dX7_readWindow_79 : decode cX7_readWindow 79 = .ok (.lload 4, 2) := by decide +kernel
theorem dX7_readWindow_81 : decode cX7_readWindow 81 = .ok (.lload_n 2, 1) := by decide +kernel
theorem dX7_readWindow_82 : decode cX7_readWindow 82 = .ok (.invokevirtual 71, 3) := by decide +kernel
theorem dX7_readWindow_85 : decode cX7_readWindow 85 = .ok (.ifCond .ne 5, 3) := by decide +kernel
theorem dX7_readWindow_88 : decode cX7_readWindow 88 = .ok (.iconst 0, 1) := by decide +kernel
theorem dX7_readWindow_89 : decode cX7_readWindow 89 = .ok (.ireturn, 1) := by decide +kernel
theorem dX7_readWindow_90 : decode cX7_readWindow 90 = .ok (.aload_n 1, 1) := by decide +kernel
theorem dX7_readWindow_91 : decode cX7_readWindow 91 = .ok (.new 192, 3) := by decide +kernel
theorem dX7_readWindow_94 : decode cX7_readWindow 94 = .ok (.dup, 1) := by decide +kernel
theorem dX7_readWindow_95 : decode cX7_readWindow 95 = .ok (.lload_n 2, 1) := by decide +kernel
theorem dX7_readWindow_96 : decode cX7_readWindow 96 = .ok (.aload_n 0, 1) := by decide +kernel
theorem dX7_readWindow_97 : decode cX7_readWindow 97 = .ok (.getfield 62, 3) := by decide +kernel
theorem dX7_readWindow_100 : decode cX7_readWindow 100 = .ok (.invokespecial 194, 3) := by decide +kernel
theorem dX7_readWindow_103 : decode cX7_readWindow 103 = .ok (.putfield 197, 3) := by decide +kernel
theorem dX7_readWindow_106 : decode cX7_readWindow 106 = .ok (.aload_n 0, 1) := by decide +kernel
theorem dX7_readWindow_107 : decode cX7_readWindow 107 = .ok (.bipush 59, 2) := by decide +kernel
theorem dX7_readWindow_109 : decode cX7_readWindow 109 = .ok (.invokevirtual 78, 3) := by decide +kernel
theorem dX7_readWindow_112 : decode cX7_readWindow 112 = .ok (.ireturn, 1) := by decide +kernel
theorem dX7_readInput_0 : decode cX7_readInput 0 = .ok (.aload_n 0, 1) := by decide +kernel
theorem dX7_readInput_1 : decode cX7_readInput 1 = .ok (.getfield 9, 3) := by decide +kernel
theorem dX7_readInput_4 : decode cX7_readInput 4 = .ok (.getfield 24, 3) := by decide +kernel
theorem dX7_readInput_7 : decode cX7_readInput 7 = .ok (.iconst 3, 1) := by decide +kernel
theorem dX7_readInput_8 : decode cX7_readInput 8 = .ok (.if_icmp .eq 8, 3) := by decide +kernel
theorem dX7_readInput_11 : decode cX7_readInput 11 = .ok (.aload_n 0, 1) := by decide +kernel
theorem dX7_readInput_12 : decode cX7_readInput 12 = .ok (.invokevirtual 84, 3) := by decide +kernel
theorem dX7_readInput_15 : decode cX7_readInput 15 = .ok (.ireturn, 1) := by decide +kernel
theorem dX7_readInput_16 : decode cX7_readInput 16 = .ok (.aload_n 0, 1) := by decide +kernel
theorem dX7_readInput_17 : decode cX7_readInput 17 = .ok (.getfield 15, 3) := by decide +kernel
theorem dX7_readInput_20 : decode cX7_readInput 20 = .ok (.aload_n 0, 1) := by decide +kernel
theorem dX7_readInput_21 : decode cX7_readInput 21 = .ok (.getfield 9, 3) := by decide +kernel
theorem dX7_readInput_24 : decode cX7_readInput 24 = .ok (.getfield 81, 3) := by decide +kernel
theorem dX7_readInput_27 : decode cX7_readInput 27 = .ok (.invokevirtual 87, 3) := by decide +kernel
theorem dX7_readInput_30 : decode cX7_readInput 30 = .ok (.astore_n 2, 1) := by decide +kernel
theorem dX7_readInput_31 : decode cX7_readInput 31 = .ok (.aload_n 2, 1) := by decide +kernel
theorem dX7_readInput_32 : decode cX7_readInput 32 = .ok (.ifnull 10, 3) := by decide +kernel
theorem dX7_readInput_35 : decode cX7_readInput 35 = .ok (.aload_n 2, 1) := by decide +kernel
theorem dX7_readInput_36 : decode cX7_readInput 36 = .ok (.getfield 201, 3) := by decide +kernel
theorem dX7_readInput_39 : decode cX7_readInput 39 = .ok (.ifnull 9, 3) := by decide +kernel
theorem dX7_readInput_42 : decode cX7_readInput 42 = .ok (.aload_n 0, 1) := by decide +kernel
theorem dX7_readInput_43 : decode cX7_readInput 43 = .ok (.iconst 4, 1) := by decide +kernel
theorem dX7_readInput_44 : decode cX7_readInput 44 = .ok (.invokevirtual 34, 3) := by decide +kernel
theorem dX7_readInput_47 : decode cX7_readInput 47 = .ok (.ireturn, 1) := by decide +kernel
theorem dX7_readInput_48 : decode cX7_readInput 48 = .ok (.aload_n 1, 1) := by decide +kernel
theorem dX7_readInput_49 : decode cX7_readInput 49 = .ok (.aload_n 2, 1) := by decide +kernel
theorem dX7_readInput_50 : decode cX7_readInput 50 = .ok (.invokevirtual 205, 3) := by decide +kernel
theorem dX7_readInput_53 : decode cX7_readInput 53 = .ok (.aload_n 2, 1) := by decide +kernel
theorem dX7_readInput_54 : decode cX7_readInput 54 = .ok (.aload_n 1, 1) := by decide +kernel
theorem dX7_readInput_55 : decode cX7_readInput 55 = .ok (.putfield 201, 3) := by decide +kernel
theorem dX7_readInput_58 : decode cX7_readInput 58 = .ok (.aload_n 0, 1) := by decide +kernel
theorem dX7_readInput_59 : decode cX7_readInput 59 = .ok (.getfield 9, 3) := by decide +kernel
theorem dX7_readInput_62 : decode cX7_readInput 62 = .ok (.invokevirtual 19, 3) := by decide +kernel
theorem dX7_readInput_65 : decode cX7_readInput 65 = .ok (.iconst 1, 1) := by decide +kernel
theorem dX7_readInput_66 : decode cX7_readInput 66 = .ok (.ireturn, 1) := by decide +kernel
theorem dX7_readSignedNumber_0 : decode cX7_readSignedNumber 0 = .ok (.aload_n 0, 1) := by decide +kernel
theorem dX7_readSignedNumber_1 : decode cX7_readSignedNumber 1 = .ok (.bipush 45, 2) := by decide +kernel
theorem dX7_readSignedNumber_3 : decode cX7_readSignedNumber 3 = .ok (.invokevirtual 208, 3) := by decide +kernel
theorem dX7_readSignedNumber_6 : decode cX7_readSignedNumber 6 = .ok (.istore_n 3, 1) := by decide +kernel
theorem dX7_readSignedNumber_7 : decode cX7_readSignedNumber 7 = .ok (.iload_n 3, 1) := by decide +kernel
theorem dX7_readSignedNumber_8 : decode cX7_readSignedNumber 8 = .ok (.ifCond .eq 10, 3) := by decide +kernel
theorem dX7_readSignedNumber_11 : decode cX7_readSignedNumber 11 = .ok (.aload_n 0, 1) := by decide +kernel
theorem dX7_readSignedNumber_12 : decode cX7_readSignedNumber 12 = .ok (.getfield 9, 3) := by decide +kernel
theorem dX7_readSignedNumber_15 : decode cX7_readSignedNumber 15 = .ok (.invokevirtual 19, 3) := by decide +kernel
theorem dX7_readSignedNumber_18 : decode cX7_readSignedNumber 18 = .ok (.iload_n 3, 1) := by decide +kernel
theorem dX7_readSignedNumber_19 : decode cX7_readSignedNumber 19 = .ok (.ifCond .eq 16, 3) := by decide +kernel
theorem dX7_readSignedNumber_22 : decode cX7_readSignedNumber 22 = .ok (.aload_n 0, 1) := by decide +kernel
theorem dX7_readSignedNumber_23 : decode cX7_readSignedNumber 23 = .ok (.lconst 0, 1) := by decide +kernel
theorem dX7_readSignedNumber_24 : decode cX7_readSignedNumber 24 = .ok (.lload_n 1, 1) := by decide +kernel
theorem dX7_readSignedNumber_25 : decode cX7_readSignedNumber 25 = .ok (.lneg, 1) := by decide +kernel
theorem dX7_readSignedNumber_26 : decode cX7_readSignedNumber 26 = .ok (.invokevirtual 58, 3) := by decide +kernel
theorem dX7_readSignedNumber_29 : decode cX7_readSignedNumber 29 = .ok (.ifCond .eq 17, 3) := by decide +kernel
theorem dX7_readSignedNumber_32 : decode cX7_readSignedNumber 32 = .ok (.goto 16, 3) := by decide +kernel
theorem dX7_readSignedNumber_35 : decode cX7_readSignedNumber 35 = .ok (.aload_n 0, 1) := by decide +kernel
theorem dX7_readSignedNumber_36 : decode cX7_readSignedNumber 36 = .ok (.lload_n 1, 1) := by decide +kernel
theorem dX7_readSignedNumber_37 : decode cX7_readSignedNumber 37 = .ok (.ldc2_w 69, 3) := by decide +kernel
theorem dX7_readSignedNumber_40 : decode cX7_readSignedNumber 40 = .ok (.invokevirtual 58, 3) := by decide +kernel
theorem dX7_readSignedNumber_43 : decode cX7_readSignedNumber 43 = .ok (.ifCond .ne 5, 3) := by decide +kernel
theorem dX7_readSignedNumber_46 : decode cX7_readSignedNumber 46 = .ok (.iconst 0, 1) := by decide +kernel
theorem dX7_readSignedNumber_47 : decode cX7_readSignedNumber 47 = .ok (.ireturn, 1) := by decide +kernel
theorem dX7_readSignedNumber_48 : decode cX7_readSignedNumber 48 = .ok (.iload_n 3, 1) := by decide +kernel
theorem dX7_readSignedNumber_49 : decode cX7_readSignedNumber 49 = .ok (.ifCond .eq 12, 3) := by decide +kernel
theorem dX7_readSignedNumber_52 : decode cX7_readSignedNumber 52 = .ok (.aload_n 0, 1) := by decide +kernel
theorem dX7_readSignedNumber_53 : decode cX7_readSignedNumber 53 = .ok (.aload_n 0, 1) := by decide +kernel
theorem dX7_readSignedNumber_54 : decode cX7_readSignedNumber 54 = .ok (.getfield 62, 3) := by decide +kernel
theorem dX7_readSignedNumber_57 : decode cX7_readSignedNumber 57 = .ok (.lneg, 1) := by decide +kernel
theorem dX7_readSignedNumber_58 : decode cX7_readSignedNumber 58 = .ok (.putfield 62, 3) := by decide +kernel
theorem dX7_readSignedNumber_61 : decode cX7_readSignedNumber 61 = .ok (.aload_n 0, 1) := by decide +kernel
theorem dX7_readSignedNumber_62 : decode cX7_readSignedNumber 62 = .ok (.getfield 9, 3) := by decide +kernel
theorem dX7_readSignedNumber_65 : decode cX7_readSignedNumber 65 = .ok (.invokevirtual 19, 3) := by decide +kernel
theorem dX7_readSignedNumber_68 : decode cX7_readSignedNumber 68 = .ok (.iconst 1, 1) := by decide +kernel
theorem dX7_readSignedNumber_69 : decode cX7_readSignedNumber 69 = .ok (.ireturn, 1) := by decide +kernel
theorem dX7_readNumber_0 : decode cX7_readNumber 0 = .ok (.aload_n 0, 1) := by decide +kernel
theorem dX7_readNumber_1 : decode cX7_readNumber 1 = .ok (.lload_n 1, 1) := by decide +kernel
theorem dX7_readNumber_2 : decode cX7_readNumber 2 = .ok (.lload_n 3, 1) := by decide +kernel
theorem dX7_readNumber_3 : decode cX7_readNumber 3 = .ok (.invokevirtual 58, 3) := by decide +kernel
theorem dX7_readNumber_6 : decode cX7_readNumber 6 = .ok (.ifCond .ne 5, 3) := by decide +kernel
theorem dX7_readNumber_9 : decode cX7_readNumber 9 = .ok (.iconst 0, 1) := by decide +kernel
theorem dX7_readNumber_10 : decode cX7_readNumber 10 = .ok (.ireturn, 1) := by decide +kernel
theorem dX7_readNumber_11 : decode cX7_readNumber 11 = .ok (.aload_n 0, 1) := by decide +kernel
theorem dX7_readNumber_12 : decode cX7_readNumber 12 = .ok (.getfield 9, 3) := by decide +kernel
theorem dX7_readNumber_15 : decode cX7_readNumber 15 = .ok (.invokevirtual 19, 3) := by decide +kernel
theorem dX7_readNumber_18 : decode cX7_readNumber 18 = .ok (.iconst 1, 1) := by decide +kernel
theorem dX7_readNumber_19 : decode cX7_readNumber 19 = .ok (.ireturn, 1) := by decide +kernel
theorem dX7_isNumber_0 : decode cX7_isNumber 0 = .ok (.aload_n 0, 1) := by decide +kernel
theorem dX7_isNumber_1 : decode cX7_isNumber 1 = .ok (.getfield 9, 3) := by decide +kernel
theorem dX7_isNumber_4 : decode cX7_isNumber 4 = .ok (.getfield 24, 3) := by decide +kernel
theorem dX7_isNumber_7 : decode cX7_isNumber 7 = .ok (.iconst 4, 1) := by decide +kernel
theorem dX7_isNumber_8 : decode cX7_isNumber 8 = .ok (.if_icmp .eq 8, 3) := by decide +kernel
theorem dX7_isNumber_11 : decode cX7_isNumber 11 = .ok (.aload_n 0, 1) := by decide +kernel
theorem dX7_isNumber_12 : decode cX7_isNumber 12 = .ok (.invokevirtual 84, 3) := by decide +kernel
theorem dX7_isNumber_15 : decode cX7_isNumber 15 = .ok (.ireturn, 1) := by decide +kernel
theorem dX7_isNumber_16 : decode cX7_isNumber 16 = .ok (.aload_n 0, 1) := by decide +kernel
theorem dX7_isNumber_17 : decode cX7_isNumber 17 = .ok (.aload_n 0, 1) := by decide +kernel
theorem dX7_isNumber_18 : decode cX7_isNumber 18 = .ok (.getfield 9, 3) := by decide +kernel
theorem dX7_isNumber_21 : decode cX7_isNumber 21 = .ok (.getfield 81, 3) := by decide +kernel
theorem dX7_isNumber_24 : decode cX7_isNumber 24 = .ok (.putfield 62, 3) := by decide +kernel
theorem dX7_isNumber_27 : decode cX7_isNumber 27 = .ok (.aload_n 0, 1) := by decide +kernel
theorem dX7_isNumber_28 : decode cX7_isNumber 28 = .ok (.getfield 62, 3) := by decide +kernel
theorem dX7_isNumber_31 : decode cX7_isNumber 31 = .ok (.lload_n 1, 1) := by decide +kernel
theorem dX7_isNumber_32 : decode cX7_isNumber 32 = .ok (.lcmp, 1) := by decide +kernel
theorem dX7_isNumber_33 : decode cX7_isNumber 33 = .ok (.ifCond .lt 12, 3) := by decide +kernel
theorem dX7_isNumber_36 : decode cX7_isNumber 36 = .ok (.aload_n 0, 1) := by decide +kernel
theorem dX7_isNumber_37 : decode cX7_isNumber 37 = .ok (.getfield 62, 3) := by decide +kernel
theorem dX7_isNumber_40 : decode cX7_isNumber 40 = .ok (.lload_n 3, 1) := by decide +kernel
theorem dX7_isNumber_41 : decode cX7_isNumber 41 = .ok (.lcmp, 1) := by decide +kernel
theorem dX7_isNumber_42 : decode cX7_isNumber 42 = .ok (.ifCond .le 11, 3) := by decide +kernel
theorem dX7_isNumber_45 : decode cX7_isNumber 45 = .ok (.aload_n 0, 1) := by decide +kernel
theorem dX7_isNumber_46 : decode cX7_isNumber 46 = .ok (.iconst 5, 1) := by decide +kernel
theorem dX7_isNumber_47 : decode cX7_isNumber 47 = .ok (.invokevirtual 34, 3) := by decide +kernel
theorem dX7_isNumber_50 : decode cX7_isNumber 50 = .ok (.ifCond .eq 7, 3) := by decide +kernel
theorem dX7_isNumber_53 : decode cX7_isNumber 53 = .ok (.iconst 1, 1) := by decide +kernel
theorem dX7_isNumber_54 : decode cX7_isNumber 54 = .ok (.goto 4, 3) := by decide +kernel
theorem dX7_isNumber_57 : decode cX7_isNumber 57 = .ok (.iconst 0, 1) := by decide +kernel
theorem dX7_isNumber_58 : decode cX7_isNumber 58 = .ok (.ireturn, 1) := by decide +kernel
theorem dX7_readKeyword_0 : decode cX7_readKeyword 0 = .ok (.aload_n 0, 1) := by decide +kernel
theorem dX7_readKeyword_1 : decode cX7_readKeyword 1 = .ok (.lload_n 1, 1) := by decide +kernel
theorem dX7_readKeyword_2 : decode cX7_readKeyword 2 = .ok (.invokevirtual 30, 3) := by decide +kernel
theorem dX7_readKeyword_5 : decode cX7_readKeyword 5 = .ok (.ifCond .ne 8, 3) := by decide +kernel
theorem dX7_readKeyword_8 : decode cX7_readKeyword 8 = .ok (.aload_n 0, 1) := by decide +kernel
theorem dX7_readKeyword_9 : decode cX7_readKeyword 9 = .ok (.invokevirtual 84, 3) := by decide +kernel
theorem dX7_readKeyword_12 : decode cX7_readKeyword 12 = .ok (.ireturn, 1) := by decide +kernel
theorem dX7_readKeyword_13 : decode cX7_readKeyword 13 = .ok (.aload_n 0, 1) := by decide +kernel
theorem dX7_readKeyword_14 : decode cX7_readKeyword 14 = .ok (.getfield 9, 3) := by decide +kernel
theorem dX7_readKeyword_17 : decode cX7_readKeyword 17 = .ok (.invokevirtual 19, 3) := by decide +kernel
theorem dX7_readKeyword_20 : decode cX7_readKeyword 20 = .ok (.iconst 1, 1) := by decide +kernel
theorem dX7_readKeyword_21 : decode cX7_readKeyword 21 = .ok (.ireturn, 1) := by decide +kernel
theorem dX7_readSign_0 : decode cX7_readSign 0 = .ok (.aload_n 0, 1) := by decide +kernel
theorem dX7_readSign_1 : decode cX7_readSign 1 = .ok (.iload_n 1, 1) := by decide +kernel
theorem dX7_readSign_2 : decode cX7_readSign 2 = .ok (.invokevirtual 208, 3) := by decide +kernel
theorem dX7_readSign_5 : decode cX7_readSign 5 = .ok (.ifCond .ne 8, 3) := by decide +kernel
theorem dX7_readSign_8 : decode cX7_readSign 8 = .ok (.aload_n 0, 1) := by decide +kernel
theorem dX7_readSign_9 : decode cX7_readSign 9 = .ok (.invokevirtual 84, 3) := by decide +kernel
theorem dX7_readSign_12 : decode cX7_readSign 12 = .ok (.ireturn, 1) := by decide +kernel
theorem dX7_readSign_13 : decode cX7_readSign 13 = .ok (.aload_n 0, 1) := by decide +kernel
theorem dX7_readSign_14 : decode cX7_readSign 14 = .ok (.getfield 9, 3) := by decide +kernel
theorem dX7_readSign_17 : decode cX7_readSign 17 = .ok (.invokevirtual 19, 3) := by decide +kernel
theorem dX7_readSign_20 : decode cX7_readSign 20 = .ok (.iconst 1, 1) := by decide +kernel
theorem dX7_readSign_21 : decode cX7_readSign 21 = .ok (.ireturn, 1) := by decide +kernel
theorem dX7_isKeyword_0 : decode cX7_isKeyword 0 = .ok (.aload_n 0, 1) := by decide +kernel
theorem dX7_isKeyword_1 : decode cX7_isKeyword 1 = .ok (.getfield 9, 3) := by decide +kernel
theorem dX7_isKeyword_4 : decode cX7_isKeyword 4 = .ok (.getfield 24, 3) := by decide +kernel
theorem dX7_isKeyword_7 : decode cX7_isKeyword 7 = .ok (.iconst 2, 1) := by decide +kernel
theorem dX7_isKeyword_8 : decode cX7_isKeyword 8 = .ok (.if_icmp .ne 19, 3) := by decide +kernel
theorem dX7_isKeyword_11 : decode cX7_isKeyword 11 = .ok (.aload_n 0, 1) := by decide +kernel
theorem dX7_isKeyword_12 : decode cX7_isKeyword 12 = .ok (.getfield 9, 3) := by decide +kernel
theorem dX7_isKeyword_15 : decode cX7_isKeyword 15 = .ok (.getfield 81, 3) := by decide +kernel
theorem dX7_isKeyword_18 : decode cX7_isKeyword 18 = .ok (.lload_n 1, 1) := by decide +kernel
theorem dX7_isKeyword_19 : decode cX7_isKeyword 19 = .ok (.lcmp, 1) := by decide +kernel
theorem dX7_isKeyword_20 : decode cX7_isKeyword 20 = .ok (.ifCond .ne 7, 3) := by decide +kernel
theorem dX7_isKeyword_23 : decode cX7_isKeyword 23 = .ok (.iconst 1, 1) := by decide +kernel
theorem dX7_isKeyword_24 : decode cX7_isKeyword 24 = .ok (.goto 4, 3) := by decide +kernel
theorem dX7_isKeyword_27 : decode cX7_isKeyword 27 = .ok (.iconst 0, 1) := by decide +kernel
theorem dX7_isKeyword_28 : decode cX7_isKeyword 28 = .ok (.ireturn, 1) := by decide +kernel
theorem dX7_isSign_0 : decode cX7_isSign 0 = .ok (.aload_n 0, 1) := by decide +kernel
theorem dX7_isSign_1 : decode cX7_isSign 1 = .ok (.getfield 9, 3) := by decide +kernel
theorem dX7_isSign_4 : decode cX7_isSign 4 = .ok (.getfield 24, 3) := by decide +kernel
theorem dX7_isSign_7 : decode cX7_isSign 7 = .ok (.iconst 5, 1) := by decide +kernel
theorem dX7_isSign_8 : decode cX7_isSign 8 = .ok (.if_icmp .ne 20, 3) := by decide +kernel
theorem dX7_isSign_11 : decode cX7_isSign 11 = .ok (.aload_n 0, 1) := by decide +kernel
theorem dX7_isSign_12 : decode cX7_isSign 12 = .ok (.getfield 9, 3) := by decide +kernel
theorem dX7_isSign_15 : decode cX7_isSign 15 = .ok (.getfield 81, 3) := by decide +kernel
theorem dX7_isSign_18 : decode cX7_isSign 18 = .ok (.iload_n 1, 1) := by decide +kernel
theorem dX7_isSign_19 : decode cX7_isSign 19 = .ok (.i2l, 1) := by decide +kernel
theorem dX7_isSign_20 : decode cX7_isSign 20 = .ok (.lcmp, 1) := by decide +kernel
theorem dX7_isSign_21 : decode cX7_isSign 21 = .ok (.ifCond .ne 7, 3) := by decide +kernel
theorem dX7_isSign_24 : decode cX7_isSign 24 = .ok (.iconst 1, 1) := by decide +kernel
theorem dX7_isSign_25 : decode cX7_isSign 25 = .ok (.goto 4, 3) := by decide +kernel
theorem dX7_isSign_28 : decode cX7_isSign 28 = .ok (.iconst 0, 1) := by decide +kernel
theorem dX7_isSign_29 : decode cX7_isSign 29 = .ok (.ireturn, 1) := by decide +kernel
theorem dX7_refuseToken_0 : decode cX7_refuseToken 0 = .ok (.aload_n 0, 1) := by decide +kernel
theorem dX7_refuseToken_1 : decode cX7_refuseToken 1 = .ok (.aload_n 0, 1) := by decide +kernel
theorem dX7_refuseToken_2 : decode cX7_refuseToken 2 = .ok (.getfield 9, 3) := by decide +kernel
theorem dX7_refuseToken_5 : decode cX7_refuseToken 5 = .ok (.getfield 24, 3) := by decide +kernel
theorem dX7_refuseToken_8 : decode cX7_refuseToken 8 = .ok (.iconst 1, 1) := by decide +kernel
theorem dX7_refuseToken_9 : decode cX7_refuseToken 9 = .ok (.if_icmp .ne 7, 3) := by decide +kernel
theorem dX7_refuseToken_12 : decode cX7_refuseToken 12 = .ok (.iconst 1, 1) := by decide +kernel
theorem dX7_refuseToken_13 : decode cX7_refuseToken 13 = .ok (.goto 4, 3) := by decide +kernel
theorem dX7_refuseToken_16 : decode cX7_refuseToken 16 = .ok (.iconst 2, 1) := by decide +kernel
theorem dX7_refuseToken_17 : decode cX7_refuseToken 17 = .ok (.invokevirtual 34, 3) := by decide +kernel
theorem dX7_refuseToken_20 : decode cX7_refuseToken 20 = .ok (.ireturn, 1) := by decide +kernel
theorem dX7_refuse_0 : decode cX7_refuse 0 = .ok (.aload_n 0, 1) := by decide +kernel
theorem dX7_refuse_1 : decode cX7_refuse 1 = .ok (.iload_n 1, 1) := by decide +kernel
theorem dX7_refuse_2 : decode cX7_refuse 2 = .ok (.putfield 211, 3) := by decide +kernel
theorem dX7_refuse_5 : decode cX7_refuse 5 = .ok (.aload_n 0, 1) := by decide +kernel
theorem dX7_refuse_6 : decode cX7_refuse 6 = .ok (.aload_n 0, 1) := by decide +kernel
theorem dX7_refuse_7 : decode cX7_refuse 7 = .ok (.getfield 9, 3) := by decide +kernel
theorem dX7_refuse_10 : decode cX7_refuse 10 = .ok (.getfield 214, 3) := by decide +kernel
theorem dX7_refuse_13 : decode cX7_refuse 13 = .ok (.putfield 217, 3) := by decide +kernel
theorem dX7_refuse_16 : decode cX7_refuse 16 = .ok (.iconst 0, 1) := by decide +kernel
theorem dX7_refuse_17 : decode cX7_refuse 17 = .ok (.ireturn, 1) := by decide +kernel
theorem dX8_init_0 : decode cX8_init 0 = .ok (.aload_n 0, 1) := by decide +kernel
theorem dX8_init_1 : decode cX8_init 1 = .ok (.invokespecial 3, 3) := by decide +kernel
theorem dX8_init_4 : decode cX8_init 4 = .ok (.aload_n 0, 1) := by decide +kernel
theorem dX8_init_5 : decode cX8_init 5 = .ok (.bipush 60, 2) := by decide +kernel
theorem dX8_init_7 : decode cX8_init 7 = .ok (.newarray .int, 2) := by decide +kernel
theorem dX8_init_9 : decode cX8_init 9 = .ok (.putfield 9, 3) := by decide +kernel
theorem dX8_init_12 : decode cX8_init 12 = .ok (.aload_n 0, 1) := by decide +kernel
theorem dX8_init_13 : decode cX8_init 13 = .ok (.bipush 60, 2) := by decide +kernel
theorem dX8_init_15 : decode cX8_init 15 = .ok (.newarray .long, 2) := by decide +kernel
theorem dX8_init_17 : decode cX8_init 17 = .ok (.putfield 15, 3) := by decide +kernel
theorem dX8_init_20 : decode cX8_init 20 = .ok (.aload_n 0, 1) := by decide +kernel
theorem dX8_init_21 : decode cX8_init 21 = .ok (.bipush 60, 2) := by decide +kernel
theorem dX8_init_23 : decode cX8_init 23 = .ok (.newarray .boolean, 2) := by decide +kernel
theorem dX8_init_25 : decode cX8_init 25 = .ok (.putfield 19, 3) := by decide +kernel
theorem dX8_init_28 : decode cX8_init 28 = .ok (.return_, 1) := by decide +kernel
theorem dX8_give_0 : decode cX8_give 0 = .ok (.aload_n 0, 1) := by decide +kernel
theorem dX8_give_1 : decode cX8_give 1 = .ok (.getfield 23, 3) := by decide +kernel
theorem dX8_give_4 : decode cX8_give 4 = .ok (.bipush 60, 2) := by decide +kernel
theorem dX8_give_6 : decode cX8_give 6 = .ok (.if_icmp .lt 6, 3) := by decide +kernel
theorem dX8_give_9 : decode cX8_give 9 = .ok (.bipush (-4), 2) := by decide +kernel
theorem dX8_give_11 : decode cX8_give 11 = .ok (.ireturn, 1) := by decide +kernel
theorem dX8_give_12 : decode cX8_give 12 = .ok (.aload_n 0, 1) := by decide +kernel
theorem dX8_give_13 : decode cX8_give 13 = .ok (.getfield 9, 3) := by decide +kernel
theorem dX8_give_16 : decode cX8_give 16 = .ok (.aload_n 0, 1) := by decide +kernel
theorem dX8_give_17 : decode cX8_give 17 = .ok (.getfield 23, 3) := by decide +kernel
theorem dX8_give_20 : decode cX8_give 20 = .ok (.iload_n 1, 1) := by decide +kernel
theorem dX8_give_21 : decode cX8_give 21 = .ok (.iastore, 1) := by decide +kernel
theorem dX8_give_22 : decode cX8_give 22 = .ok (.aload_n 0, 1) := by decide +kernel
theorem dX8_give_23 : decode cX8_give 23 = .ok (.getfield 15, 3) := by decide +kernel
theorem dX8_give_26 : decode cX8_give 26 = .ok (.aload_n 0, 1) := by decide +kernel
theorem dX8_give_27 : decode cX8_give 27 = .ok (.getfield 23, 3) := by decide +kernel
theorem dX8_give_30 : decode cX8_give 30 = .ok (.lload_n 2, 1) := by decide +kernel
theorem dX8_give_31 : decode cX8_give 31 = .ok (.lastore, 1) := by decide +kernel
theorem dX8_give_32 : decode cX8_give 32 = .ok (.aload_n 0, 1) := by decide +kernel
theorem dX8_give_33 : decode cX8_give 33 = .ok (.getfield 19, 3) := by decide +kernel
theorem dX8_give_36 : decode cX8_give 36 = .ok (.aload_n 0, 1) := by decide +kernel
theorem dX8_give_37 : decode cX8_give 37 = .ok (.getfield 23, 3) := by decide +kernel
theorem dX8_give_40 : decode cX8_give 40 = .ok (.iconst 1, 1) := by decide +kernel
theorem dX8_give_41 : decode cX8_give 41 = .ok (.bastore, 1) := by decide +kernel
theorem dX8_give_42 : decode cX8_give 42 = .ok (.aload_n 0, 1) := by decide +kernel
theorem dX8_give_43 : decode cX8_give 43 = .ok (.dup, 1) := by decide +kernel
theorem dX8_give_44 : decode cX8_give 44 = .ok (.getfield 23, 3) := by decide +kernel
theorem dX8_give_47 : decode cX8_give 47 = .ok (.iconst 1, 1) := by decide +kernel
theorem dX8_give_48 : decode cX8_give 48 = .ok (.iadd, 1) := by decide +kernel
theorem dX8_give_49 : decode cX8_give 49 = .ok (.putfield 23, 3) := by decide +kernel
theorem dX8_give_52 : decode cX8_give 52 = .ok (.aload_n 0, 1) := by decide +kernel
theorem dX8_give_53 : decode cX8_give 53 = .ok (.getfield 23, 3) := by decide +kernel
theorem dX8_give_56 : decode cX8_give 56 = .ok (.iconst 1, 1) := by decide +kernel
theorem dX8_give_57 : decode cX8_give 57 = .ok (.isub, 1) := by decide +kernel
theorem dX8_give_58 : decode cX8_give 58 = .ok (.ireturn, 1) := by decide +kernel
theorem dX8_isHeld_0 : decode cX8_isHeld 0 = .ok (.iload_n 1, 1) := by decide +kernel
theorem dX8_isHeld_1 : decode cX8_isHeld 1 = .ok (.ifCond .lt 24, 3) := by decide +kernel
theorem dX8_isHeld_4 : decode cX8_isHeld 4 = .ok (.iload_n 1, 1) := by decide +kernel
theorem dX8_isHeld_5 : decode cX8_isHeld 5 = .ok (.aload_n 0, 1) := by decide +kernel
theorem dX8_isHeld_6 : decode cX8_isHeld 6 = .ok (.getfield 23, 3) := by decide +kernel
theorem dX8_isHeld_9 : decode cX8_isHeld 9 = .ok (.if_icmp .ge 16, 3) := by decide +kernel
theorem dX8_isHeld_12 : decode cX8_isHeld 12 = .ok (.aload_n 0, 1) := by decide +kernel
theorem dX8_isHeld_13 : decode cX8_isHeld 13 = .ok (.getfield 19, 3) := by decide +kernel
theorem dX8_isHeld_16 : decode cX8_isHeld 16 = .ok (.iload_n 1, 1) := by decide +kernel
theorem dX8_isHeld_17 : decode cX8_isHeld 17 = .ok (.baload, 1) := by decide +kernel
theorem dX8_isHeld_18 : decode cX8_isHeld 18 = .ok (.ifCond .eq 7, 3) := by decide +kernel
theorem dX8_isHeld_21 : decode cX8_isHeld 21 = .ok (.iconst 1, 1) := by decide +kernel
theorem dX8_isHeld_22 : decode cX8_isHeld 22 = .ok (.goto 4, 3) := by decide +kernel
theorem dX8_isHeld_25 : decode cX8_isHeld 25 = .ok (.iconst 0, 1) := by decide +kernel
theorem dX8_isHeld_26 : decode cX8_isHeld 26 = .ok (.ireturn, 1) := by decide +kernel
theorem dX8_countAll_0 : decode cX8_countAll 0 = .ok (.iconst 0, 1) := by decide +kernel
theorem dX8_countAll_1 : decode cX8_countAll 1 = .ok (.istore_n 1, 1) := by decide +kernel
theorem dX8_countAll_2 : decode cX8_countAll 2 = .ok (.iconst 0, 1) := by decide +kernel
theorem dX8_countAll_3 : decode cX8_countAll 3 = .ok (.istore_n 2, 1) := by decide +kernel
theorem dX8_countAll_4 : decode cX8_countAll 4 = .ok (.iload_n 2, 1) := by decide +kernel
theorem dX8_countAll_5 : decode cX8_countAll 5 = .ok (.aload_n 0, 1) := by decide +kernel
theorem dX8_countAll_6 : decode cX8_countAll 6 = .ok (.getfield 23, 3) := by decide +kernel
theorem dX8_countAll_9 : decode cX8_countAll 9 = .ok (.if_icmp .ge 21, 3) := by decide +kernel
theorem dX8_countAll_12 : decode cX8_countAll 12 = .ok (.aload_n 0, 1) := by decide +kernel
theorem dX8_countAll_13 : decode cX8_countAll 13 = .ok (.getfield 19, 3) := by decide +kernel
theorem dX8_countAll_16 : decode cX8_countAll 16 = .ok (.iload_n 2, 1) := by decide +kernel
theorem dX8_countAll_17 : decode cX8_countAll 17 = .ok (.baload, 1) := by decide +kernel
theorem dX8_countAll_18 : decode cX8_countAll 18 = .ok (.ifCond .eq 6, 3) := by decide +kernel
theorem dX8_countAll_21 : decode cX8_countAll 21 = .ok (.iinc 1 1, 3) := by decide +kernel
theorem dX8_countAll_24 : decode cX8_countAll 24 = .ok (.iinc 2 1, 3) := by decide +kernel
theorem dX8_countAll_27 : decode cX8_countAll 27 = .ok (.goto (-23), 3) := by decide +kernel
theorem dX8_countAll_30 : decode cX8_countAll 30 = .ok (.iload_n 1, 1) := by decide +kernel
theorem dX8_countAll_31 : decode cX8_countAll 31 = .ok (.ireturn, 1) := by decide +kernel
theorem dX8_countIn_0 : decode cX8_countIn 0 = .ok (.iconst 0, 1) := by decide +kernel
theorem dX8_countIn_1 : decode cX8_countIn 1 = .ok (.istore_n 2, 1) := by decide +kernel
theorem dX8_countIn_2 : decode cX8_countIn 2 = .ok (.iconst 0, 1) := by decide +kernel
theorem dX8_countIn_3 : decode cX8_countIn 3 = .ok (.istore_n 3, 1) := by decide +kernel
theorem dX8_countIn_4 : decode cX8_countIn 4 = .ok (.iload_n 3, 1) := by decide +kernel
theorem dX8_countIn_5 : decode cX8_countIn 5 = .ok (.aload_n 0, 1) := by decide +kernel
theorem dX8_countIn_6 : decode cX8_countIn 6 = .ok (.getfield 23, 3) := by decide +kernel
theorem dX8_countIn_9 : decode cX8_countIn 9 = .ok (.if_icmp .ge 31, 3) := by decide +kernel
theorem dX8_countIn_12 : decode cX8_countIn 12 = .ok (.aload_n 0, 1) := by decide +kernel
theorem dX8_countIn_13 : decode cX8_countIn 13 = .ok (.getfield 19, 3) := by decide +kernel
theorem dX8_countIn_16 : decode cX8_countIn 16 = .ok (.iload_n 3, 1) := by decide +kernel
theorem dX8_countIn_17 : decode cX8_countIn 17 = .ok (.baload, 1) := by decide +kernel
theorem dX8_countIn_18 : decode cX8_countIn 18 = .ok (.ifCond .eq 16, 3) := by decide +kernel
theorem dX8_countIn_21 : decode cX8_countIn 21 = .ok (.aload_n 0, 1) := by decide +kernel
theorem dX8_countIn_22 : decode cX8_countIn 22 = .ok (.getfield 9, 3) := by decide +kernel
theorem dX8_countIn_25 : decode cX8_countIn 25 = .ok (.iload_n 3, 1) := by decide +kernel
theorem dX8_countIn_26 : decode cX8_countIn 26 = .ok (.iaload, 1) := by decide +kernel
theorem dX8_countIn_27 : decode cX8_countIn 27 = .ok (.iload_n 1, 1) := by decide +kernel
theorem dX8_countIn_28 : decode cX8_countIn 28 = .ok (.if_icmp .ne 6, 3) := by decide +kernel
theorem dX8_countIn_31 : decode cX8_countIn 31 = .ok (.iinc 2 1, 3) := by decide +kernel
theorem dX8_countIn_34 : decode cX8_countIn 34 = .ok (.iinc 3 1, 3) := by decide +kernel
theorem dX8_countIn_37 : decode cX8_countIn 37 = .ok (.goto (-33), 3) := by decide +kernel
theorem dX8_countIn_40 : decode cX8_countIn 40 = .ok (.iload_n 2, 1) := by decide +kernel
theorem dX8_countIn_41 : decode cX8_countIn 41 = .ok (.ireturn, 1) := by decide +kernel
theorem dX8_leastIn_0 : decode cX8_leastIn 0 = .ok (.ldc2_w 27, 3) := by decide +kernel
theorem dX8_leastIn_3 : decode cX8_leastIn 3 = .ok (.lstore_n 2, 1) := by decide +kernel
theorem dX8_leastIn_4 : decode cX8_leastIn 4 = .ok (.iconst 0, 1) := by decide +kernel
theorem dX8_leastIn_5 : decode cX8_leastIn 5 = .ok (.istore 4, 2) := by decide +kernel
theorem dX8_leastIn_7 : decode cX8_leastIn 7 = .ok (.iload 4, 2) := by decide +kernel
theorem dX8_leastIn_9 : decode cX8_leastIn 9 = .ok (.aload_n 0, 1) := by decide +kernel
theorem dX8_leastIn_10 : decode cX8_leastIn 10 = .ok (.getfield 23, 3) := by decide +kernel
theorem dX8_leastIn_13 : decode cX8_leastIn 13 = .ok (.if_icmp .ge 42, 3) := by decide +kernel
theorem dX8_leastIn_16 : decode cX8_leastIn 16 = .ok (.aload_n 0, 1) := by decide +kernel
theorem dX8_leastIn_17 : decode cX8_leastIn 17 = .ok (.getfield 19, 3) := by decide +kernel
theorem dX8_leastIn_20 : decode cX8_leastIn 20 = .ok (.iload 4, 2) := by decide +kernel
theorem dX8_leastIn_22 : decode cX8_leastIn 22 = .ok (.baload, 1) := by decide +kernel
theorem dX8_leastIn_23 : decode cX8_leastIn 23 = .ok (.ifCond .eq 26, 3) := by decide +kernel
theorem dX8_leastIn_26 : decode cX8_leastIn 26 = .ok (.aload_n 0, 1) := by decide +kernel
theorem dX8_leastIn_27 : decode cX8_leastIn 27 = .ok (.getfield 9, 3) := by decide +kernel
theorem dX8_leastIn_30 : decode cX8_leastIn 30 = .ok (.iload 4, 2) := by decide +kernel
theorem dX8_leastIn_32 : decode cX8_leastIn 32 = .ok (.iaload, 1) := by decide +kernel
theorem dX8_leastIn_33 : decode cX8_leastIn 33 = .ok (.iload_n 1, 1) := by decide +kernel
theorem dX8_leastIn_34 : decode cX8_leastIn 34 = .ok (.if_icmp .ne 15, 3) := by decide +kernel
theorem dX8_leastIn_37 : decode cX8_leastIn 37 = .ok (.lload_n 2, 1) := by decide +kernel
theorem dX8_leastIn_38 : decode cX8_leastIn 38 = .ok (.aload_n 0, 1) := by decide +kernel
theorem dX8_leastIn_39 : decode cX8_leastIn 39 = .ok (.getfield 15, 3) := by decide +kernel
theorem dX8_leastIn_42 : decode cX8_leastIn 42 = .ok (.iload 4, 2) := by decide +kernel
theorem dX8_leastIn_44 : decode cX8_leastIn 44 = .ok (.laload, 1) := by decide +kernel
theorem dX8_leastIn_45 : decode cX8_leastIn 45 = .ok (.invokestatic 29, 3) := by decide +kernel
theorem dX8_leastIn_48 : decode cX8_leastIn 48 = .ok (.lstore_n 2, 1) := by decide +kernel
theorem dX8_leastIn_49 : decode cX8_leastIn 49 = .ok (.iinc 4 1, 3) := by decide +kernel
theorem dX8_leastIn_52 : decode cX8_leastIn 52 = .ok (.goto (-45), 3) := by decide +kernel
theorem dX8_leastIn_55 : decode cX8_leastIn 55 = .ok (.lload_n 2, 1) := by decide +kernel
theorem dX8_leastIn_56 : decode cX8_leastIn 56 = .ok (.lreturn, 1) := by decide +kernel
theorem dX9_init_0 : decode cX9_init 0 = .ok (.aload_n 0, 1) := by decide +kernel
theorem dX9_init_1 : decode cX9_init 1 = .ok (.invokespecial 3, 3) := by decide +kernel
theorem dX9_init_4 : decode cX9_init 4 = .ok (.aload_n 0, 1) := by decide +kernel
theorem dX9_init_5 : decode cX9_init 5 = .ok (.lload_n 1, 1) := by decide +kernel
theorem dX9_init_6 : decode cX9_init 6 = .ok (.putfield 9, 3) := by decide +kernel
theorem dX9_init_9 : decode cX9_init 9 = .ok (.aload_n 0, 1) := by decide +kernel
theorem dX9_init_10 : decode cX9_init 10 = .ok (.lload_n 3, 1) := by decide +kernel
theorem dX9_init_11 : decode cX9_init 11 = .ok (.putfield 15, 3) := by decide +kernel
theorem dX9_init_14 : decode cX9_init 14 = .ok (.aload_n 0, 1) := by decide +kernel
theorem dX9_init_15 : decode cX9_init 15 = .ok (.bipush 24, 2) := by decide +kernel
theorem dX9_init_17 : decode cX9_init 17 = .ok (.newarray .long, 2) := by decide +kernel
theorem dX9_init_19 : decode cX9_init 19 = .ok (.putfield 18, 3) := by decide +kernel
theorem dX9_init_22 : decode cX9_init 22 = .ok (.aload_n 0, 1) := by decide +kernel
theorem dX9_init_23 : decode cX9_init 23 = .ok (.bipush 24, 2) := by decide +kernel
theorem dX9_init_25 : decode cX9_init 25 = .ok (.newarray .int, 2) := by decide +kernel
theorem dX9_init_27 : decode cX9_init 27 = .ok (.putfield 22, 3) := by decide +kernel
theorem dX9_init_30 : decode cX9_init 30 = .ok (.aload_n 0, 1) := by decide +kernel
theorem dX9_init_31 : decode cX9_init 31 = .ok (.bipush 24, 2) := by decide +kernel
theorem dX9_init_33 : decode cX9_init 33 = .ok (.newarray .int, 2) := by decide +kernel
theorem dX9_init_35 : decode cX9_init 35 = .ok (.putfield 26, 3) := by decide +kernel
theorem dX9_init_38 : decode cX9_init 38 = .ok (.return_, 1) := by decide +kernel
theorem dX9_add_0 : decode cX9_add 0 = .ok (.aload_n 0, 1) := by decide +kernel
theorem dX9_add_1 : decode cX9_add 1 = .ok (.getfield 15, 3) := by decide +kernel
theorem dX9_add_4 : decode cX9_add 4 = .ok (.lconst 1, 1) := by decide +kernel
theorem dX9_add_5 : decode cX9_add 5 = .ok (.lcmp, 1) := by decide +kernel
theorem dX9_add_6 : decode cX9_add 6 = .ok (.ifCond .ge 5, 3) := by decide +kernel
theorem dX9_add_9 : decode cX9_add 9 = .ok (.iconst 0, 1) := by decide +kernel
theorem dX9_add_10 : decode cX9_add 10 = .ok (.ireturn, 1) := by decide +kernel
theorem dX9_add_11 : decode cX9_add 11 = .ok (.lload_n 1, 1) := by decide +kernel
theorem dX9_add_12 : decode cX9_add 12 = .ok (.aload_n 0, 1) := by decide +kernel
theorem dX9_add_13 : decode cX9_add 13 = .ok (.getfield 15, 3) := by decide +kernel
theorem dX9_add_16 : decode cX9_add 16 = .ok (.invokestatic 29, 3) := by decide +kernel
theorem dX9_add_19 : decode cX9_add 19 = .ok (.aload_n 0, 1) := by decide +kernel
theorem dX9_add_20 : decode cX9_add 20 = .ok (.getfield 15, 3) := by decide +kernel
theorem dX9_add_23 : decode cX9_add 23 = .ok (.lmul, 1) := by decide +kernel
theorem dX9_add_24 : decode cX9_add 24 = .ok (.lstore 5, 2) := by decide +kernel
theorem dX9_add_26 : decode cX9_add 26 = .ok (.iconst 0, 1) := by decide +kernel
theorem dX9_add_27 : decode cX9_add 27 = .ok (.istore 7, 2) := by decide +kernel
theorem dX9_add_29 : decode cX9_add 29 = .ok (.iconst 3, 1) := by decide +kernel
theorem dX9_add_30 : decode cX9_add 30 = .ok (.istore 8, 2) := by decide +kernel
theorem dX9_add_32 : decode cX9_add 32 = .ok (.iload 8, 2) := by decide +kernel
theorem dX9_add_34 : decode cX9_add 34 = .ok (.ifCond .lt 51, 3) := by decide +kernel
theorem dX9_add_37 : decode cX9_add 37 = .ok (.lload 5, 2) := by decide +kernel
theorem dX9_add_39 : decode cX9_add 39 = .ok (.iload 8, 2) := by decide +kernel
theorem dX9_add_41 : decode cX9_add 41 = .ok (.i2l, 1) := by decide +kernel
theorem dX9_add_42 : decode cX9_add 42 = .ok (.aload_n 0, 1) := by decide +kernel
theorem dX9_add_43 : decode cX9_add 43 = .ok (.getfield 15, 3) := by decide +kernel
theorem dX9_add_46 : decode cX9_add 46 = .ok (.lmul, 1) := by decide +kernel
theorem dX9_add_47 : decode cX9_add 47 = .ok (.lsub, 1) := by decide +kernel
theorem dX9_add_48 : decode cX9_add 48 = .ok (.lstore 9, 2) := by decide +kernel
theorem dX9_add_50 : decode cX9_add 50 = .ok (.lload_n 1, 1) := by decide +kernel
theorem dX9_add_51 : decode cX9_add 51 = .ok (.lload 9, 2) := by decide +kernel
theorem dX9_add_53 : decode cX9_add 53 = .ok (.aload_n 0, 1) := by decide +kernel
theorem dX9_add_54 : decode cX9_add 54 = .ok (.getfield 9, 3) := by decide +kernel
theorem dX9_add_57 : decode cX9_add 57 = .ok (.ladd, 1) := by decide +kernel
theorem dX9_add_58 : decode cX9_add 58 = .ok (.lconst 1, 1) := by decide +kernel
theorem dX9_add_59 : decode cX9_add 59 = .ok (.lsub, 1) := by decide +kernel
theorem dX9_add_60 : decode cX9_add 60 = .ok (.lcmp, 1) := by decide +kernel
theorem dX9_add_61 : decode cX9_add 61 = .ok (.ifCond .gt 18, 3) := by decide +kernel
theorem dX9_add_64 : decode cX9_add 64 = .ok (.aload_n 0, 1) := by decide +kernel
theorem dX9_add_65 : decode cX9_add 65 = .ok (.lload 9, 2) := by decide +kernel
theorem dX9_add_67 : decode cX9_add 67 = .ok (.iload_n 3, 1) := by decide +kernel
theorem dX9_add_68 : decode cX9_add 68 = .ok (.iload 4, 2) := by decide +kernel
theorem dX9_add_70 : decode cX9_add 70 = .ok (.invokevirtual 35, 3) := by decide +kernel
theorem dX9_add_73 : decode cX9_add 73 = .ok (.ifCond .ne 6, 3) := by decide +kernel
theorem dX9_add_76 : decode cX9_add 76 = .ok (.iinc 7 1, 3) := by decide +kernel
theorem dX9_add_79 : decode cX9_add 79 = .ok (.iinc 8 (-1), 3) := by decide +kernel
theorem dX9_add_82 : decode cX9_add 82 = .ok (.goto (-50), 3) := by decide +kernel
theorem dX9_add_85 : decode cX9_add 85 = .ok (.iload 7, 2) := by decide +kernel
theorem dX9_add_87 : decode cX9_add 87 = .ok (.ireturn, 1) := by decide +kernel
theorem dX9_addTo_0 : decode cX9_addTo 0 = .ok (.iconst 0, 1) := by decide +kernel
theorem dX9_addTo_1 : decode cX9_addTo 1 = .ok (.istore 5, 2) := by decide +kernel
theorem dX9_addTo_3 : decode cX9_addTo 3 = .ok (.iload 5, 2) := by decide +kernel
theorem dX9_addTo_5 : decode cX9_addTo 5 = .ok (.aload_n 0, 1) := by decide +kernel
theorem dX9_addTo_6 : decode cX9_addTo 6 = .ok (.getfield 39, 3) := by decide +kernel
theorem dX9_addTo_9 : decode cX9_addTo 9 = .ok (.if_icmp .ge 20, 3) := by decide +kernel
theorem dX9_addTo_12 : decode cX9_addTo 12 = .ok (.aload_n 0, 1) := by decide +kernel
theorem dX9_addTo_13 : decode cX9_addTo 13 = .ok (.iload 5, 2) := by decide +kernel
theorem dX9_addTo_15 : decode cX9_addTo 15 = .ok (.lload_n 1, 1) := by decide +kernel
theorem dX9_addTo_16 : decode cX9_addTo 16 = .ok (.iload_n 3, 1) := by decide +kernel
theorem dX9_addTo_17 : decode cX9_addTo 17 = .ok (.invokevirtual 43, 3) := by decide +kernel
theorem dX9_addTo_20 : decode cX9_addTo 20 = .ok (.ifCond .eq 9, 3) := by decide +kernel
theorem dX9_addTo_23 : decode cX9_addTo 23 = .ok (.iinc 5 1, 3) := by decide +kernel
theorem dX9_addTo_26 : decode cX9_addTo 26 = .ok (.goto (-23), 3) := by decide +kernel
theorem dX9_addTo_29 : decode cX9_addTo 29 = .ok (.iload 5, 2) := by decide +kernel
theorem dX9_addTo_31 : decode cX9_addTo 31 = .ok (.aload_n 0, 1) := by decide +kernel
theorem dX9_addTo_32 : decode cX9_addTo 32 = .ok (.getfield 39, 3) := by decide +kernel
theorem dX9_addTo_35 : decode cX9_addTo 35 = .ok (.if_icmp .ge 40, 3) := by decide +kernel
theorem dX9_addTo_38 : decode cX9_addTo 38 = .ok (.aload_n 0, 1) := by decide +kernel
theorem dX9_addTo_39 : decode cX9_addTo 39 = .ok (.getfield 18, 3) := by decide +kernel
theorem dX9_addTo_42 : decode cX9_addTo 42 = .ok (.iload 5, 2) := by decide +kernel
theorem dX9_addTo_44 : decode cX9_addTo 44 = .ok (.laload, 1) := by decide +kernel
theorem dX9_addTo_45 : decode cX9_addTo 45 = .ok (.lload_n 1, 1) := by decide +kernel
theorem dX9_addTo_46 : decode cX9_addTo 46 = .ok (.lcmp, 1) := by decide +kernel
theorem dX9_addTo_47 : decode cX9_addTo 47 = .ok (.ifCond .ne 28, 3) := by decide +kernel
theorem dX9_addTo_50 : decode cX9_addTo 50 = .ok (.aload_n 0, 1) := by decide +kernel
theorem dX9_addTo_51 : decode cX9_addTo 51 = .ok (.getfield 22, 3) := by decide +kernel
theorem dX9_addTo_54 : decode cX9_addTo 54 = .ok (.iload 5, 2) := by decide +kernel
theorem dX9_addTo_56 : decode cX9_addTo 56 = .ok (.iaload, 1) := by decide +kernel
theorem dX9_addTo_57 : decode cX9_addTo 57 = .ok (.iload_n 3, 1) := by decide +kernel
theorem dX9_addTo_58 : decode cX9_addTo 58 = .ok (.if_icmp .ne 17, 3) := by decide +kernel
theorem dX9_addTo_61 : decode cX9_addTo 61 = .ok (.aload_n 0, 1) := by decide +kernel
theorem dX9_addTo_62 : decode cX9_addTo 62 = .ok (.getfield 26, 3) := by decide +kernel
theorem dX9_addTo_65 : decode cX9_addTo 65 = .ok (.iload 5, 2) := by decide +kernel
theorem dX9_addTo_67 : decode cX9_addTo 67 = .ok (.dup2, 1) := by decide +kernel
theorem dX9_addTo_68 : decode cX9_addTo 68 = .ok (.iaload, 1) := by decide +kernel
theorem dX9_addTo_69 : decode cX9_addTo 69 = .ok (.iload 4, 2) := by decide +kernel
theorem dX9_addTo_71 : decode cX9_addTo 71 = .ok (.iadd, 1) := by decide +kernel
theorem dX9_addTo_72 : decode cX9_addTo 72 = .ok (.iastore, 1) := by decide +kernel
theorem dX9_addTo_73 : decode cX9_addTo 73 = .ok (.iconst 1, 1) := by decide +kernel
theorem dX9_addTo_74 : decode cX9_addTo 74 = .ok (.ireturn, 1) := by decide +kernel
theorem dX9_addTo_75 : decode cX9_addTo 75 = .ok (.aload_n 0, 1) := by decide +kernel
theorem dX9_addTo_76 : decode cX9_addTo 76 = .ok (.getfield 39, 3) := by decide +kernel
theorem dX9_addTo_79 : decode cX9_addTo 79 = .ok (.bipush 24, 2) := by decide +kernel
theorem dX9_addTo_81 : decode cX9_addTo 81 = .ok (.if_icmp .lt 5, 3) := by decide +kernel
theorem dX9_addTo_84 : decode cX9_addTo 84 = .ok (.iconst 0, 1) := by decide +kernel
theorem dX9_addTo_85 : decode cX9_addTo 85 = .ok (.ireturn, 1) := by decide +kernel
theorem dX9_addTo_86 : decode cX9_addTo 86 = .ok (.aload_n 0, 1) := by decide +kernel
theorem dX9_addTo_87 : decode cX9_addTo 87 = .ok (.getfield 39, 3) := by decide +kernel
theorem dX9_addTo_90 : decode cX9_addTo 90 = .ok (.istore 6, 2) := by decide +kernel
theorem dX9_addTo_92 : decode cX9_addTo 92 = .ok (.iload 6, 2) := by decide +kernel
theorem dX9_addTo_94 : decode cX9_addTo 94 = .ok (.iload 5, 2) := by decide +kernel
theorem dX9_addTo_96 : decode cX9_addTo 96 = .ok (.if_icmp .le 42, 3) := by decide +kernel
theorem dX9_addTo_99 : decode cX9_addTo 99 = .ok (.aload_n 0, 1) := by decide +kernel
theorem dX9_addTo_100 : decode cX9_addTo 100 = .ok (.iload 6, 2) := by decide +kernel
theorem dX9_addTo_102 : decode cX9_addTo 102 = .ok (.aload_n 0, 1) := by decide +kernel
theorem dX9_addTo_103 : decode cX9_addTo 103 = .ok (.getfield 18, 3) := by decide +kernel
theorem dX9_addTo_106 : decode cX9_addTo 106 = .ok (.iload 6, 2) := by decide +kernel
theorem dX9_addTo_108 : decode cX9_addTo 108 = .ok (.iconst 1, 1) := by decide +kernel
theorem dX9_addTo_109 : decode cX9_addTo 109 = .ok (.isub, 1) := by decide +kernel
theorem dX9_addTo_110 : decode cX9_addTo 110 = .ok (.laload, 1) := by decide +kernel
theorem dX9_addTo_111 : decode cX9_addTo 111 = .ok (.aload_n 0, 1) := by decide +kernel
theorem dX9_addTo_112 : decode cX9_addTo 112 = .ok (.getfield 22, 3) := by decide +kernel
theorem dX9_addTo_115 : decode cX9_addTo 115 = .ok (.iload 6, 2) := by decide +kernel
theorem dX9_addTo_117 : decode cX9_addTo 117 = .ok (.iconst 1, 1) := by decide +kernel
theorem dX9_addTo_118 : decode cX9_addTo 118 = .ok (.isub, 1) := by decide +kernel
theorem dX9_addTo_119 : decode cX9_addTo 119 = .ok (.iaload, 1) := by decide +kernel
theorem dX9_addTo_120 : decode cX9_addTo 120 = .ok (.aload_n 0, 1) := by decide +kernel
theorem dX9_addTo_121 : decode cX9_addTo 121 = .ok (.getfield 26, 3) := by decide +kernel
theorem dX9_addTo_124 : decode cX9_addTo 124 = .ok (.iload 6, 2) := by decide +kernel
theorem dX9_addTo_126 : decode cX9_addTo 126 = .ok (.iconst 1, 1) := by decide +kernel
theorem dX9_addTo_127 : decode cX9_addTo 127 = .ok (.isub, 1) := by decide +kernel
theorem dX9_addTo_128 : decode cX9_addTo 128 = .ok (.iaload, 1) := by decide +kernel
theorem dX9_addTo_129 : decode cX9_addTo 129 = .ok (.invokevirtual 47, 3) := by decide +kernel
theorem dX9_addTo_132 : decode cX9_addTo 132 = .ok (.iinc 6 (-1), 3) := by decide +kernel
theorem dX9_addTo_135 : decode cX9_addTo 135 = .ok (.goto (-43), 3) := by decide +kernel
theorem dX9_addTo_138 : decode cX9_addTo 138 = .ok (.aload_n 0, 1) := by decide +kernel
theorem dX9_addTo_139 : decode cX9_addTo 139 = .ok (.iload 5, 2) := by decide +kernel
theorem dX9_addTo_141 : decode cX9_addTo 141 = .ok (.lload_n 1, 1) := by decide +kernel
theorem dX9_addTo_142 : decode cX9_addTo 142 = .ok (.iload_n 3, 1) := by decide +kernel
theorem dX9_addTo_143 : decode cX9_addTo 143 = .ok (.iload 4, 2) := by decide +kernel
theorem dX9_addTo_145 : decode cX9_addTo 145 = .ok (.invokevirtual 47, 3) := by decide +kernel
theorem dX9_addTo_148 : decode cX9_addTo 148 = .ok (.aload_n 0, 1) := by decide +kernel
theorem dX9_addTo_149 : decode cX9_addTo 149 = .ok (.dup, 1) := by decide +kernel
theorem dX9_addTo_150 : decode cX9_addTo 150 = .ok (.getfield 39, 3) := by decide +kernel
theorem dX9_addTo_153 : decode cX9_addTo 153 = .ok (.iconst 1, 1) := by decide +kernel
theorem dX9_addTo_154 : decode cX9_addTo 154 = .ok (.iadd, 1) := by decide +kernel
theorem dX9_addTo_155 : decode cX9_addTo 155 = .ok (.putfield 39, 3) := by decide +kernel
theorem dX9_addTo_158 : decode cX9_addTo 158 = .ok (.iconst 1, 1) := by decide +kernel
theorem dX9_addTo_159 : decode cX9_addTo 159 = .ok (.ireturn, 1) := by decide +kernel
theorem dX9_isAhead_0 : decode cX9_isAhead 0 = .ok (.aload_n 0, 1) := by decide +kernel
theorem dX9_isAhead_1 : decode cX9_isAhead 1 = .ok (.getfield 18, 3) := by decide +kernel
theorem dX9_isAhead_4 : decode cX9_isAhead 4 = .ok (.iload_n 1, 1) := by decide +kernel
theorem dX9_isAhead_5 : decode cX9_isAhead 5 = .ok (.laload, 1) := by decide +kernel
theorem dX9_isAhead_6 : decode cX9_isAhead 6 = .ok (.lload_n 2, 1) := by decide +kernel
theorem dX9_isAhead_7 : decode cX9_isAhead 7 = .ok (.lcmp, 1) := by decide +kernel
theorem dX9_isAhead_8 : decode cX9_isAhead 8 = .ok (.ifCond .lt 25, 3) := by decide +kernel
theorem dX9_isAhead_11 : decode cX9_isAhead 11 = .ok (.aload_n 0, 1) := by decide +kernel
theorem dX9_isAhead_12 : decode cX9_isAhead 12 = .ok (.getfield 18, 3) := by decide +kernel
theorem dX9_isAhead_15 : decode cX9_isAhead 15 = .ok (.iload_n 1, 1) := by decide +kernel
theorem dX9_isAhead_16 : decode cX9_isAhead 16 = .ok (.laload, 1) := by decide +kernel
theorem dX9_isAhead_17 : decode cX9_isAhead 17 = .ok (.lload_n 2, 1) := by decide +kernel
theorem dX9_isAhead_18 : decode cX9_isAhead 18 = .ok (.lcmp, 1) := by decide +kernel
theorem dX9_isAhead_19 : decode cX9_isAhead 19 = .ok (.ifCond .ne 18, 3) := by decide +kernel
theorem dX9_isAhead_22 : decode cX9_isAhead 22 = .ok (.aload_n 0, 1) := by decide +kernel
theorem dX9_isAhead_23 : decode cX9_isAhead 23 = .ok (.getfield 22, 3) := by decide +kernel
theorem dX9_isAhead_26 : decode cX9_isAhead 26 = .ok (.iload_n 1, 1) := by decide +kernel
theorem dX9_isAhead_27 : decode cX9_isAhead 27 = .ok (.iaload, 1) := by decide +kernel
theorem dX9_isAhead_28 : decode cX9_isAhead 28 = .ok (.iload 4, 2) := by decide +kernel
theorem dX9_isAhead_30 : decode cX9_isAhead 30 = .ok (.if_icmp .ge 7, 3) := by decide +kernel
theorem dX9_isAhead_33 : decode cX9_isAhead 33 = .ok (.iconst 1, 1) := by decide +kernel
theorem dX9_isAhead_34 : decode cX9_isAhead 34 = .ok (.goto 4, 3) := by decide +kernel
theorem dX9_isAhead_37 : decode cX9_isAhead 37 = .ok (.iconst 0, 1) := by decide +kernel
theorem dX9_isAhead_38 : decode cX9_isAhead 38 = .ok (.ireturn, 1) := by decide +kernel
theorem dX9_put_0 : decode cX9_put 0 = .ok (.aload_n 0, 1) := by decide +kernel
theorem dX9_put_1 : decode cX9_put 1 = .ok (.getfield 18, 3) := by decide +kernel
theorem dX9_put_4 : decode cX9_put 4 = .ok (.iload_n 1, 1) := by decide +kernel
theorem dX9_put_5 : decode cX9_put 5 = .ok (.lload_n 2, 1) := by decide +kernel
theorem dX9_put_6 : decode cX9_put 6 = .ok (.lastore, 1) := by decide +kernel
theorem dX9_put_7 : decode cX9_put 7 = .ok (.aload_n 0, 1) := by decide +kernel
theorem dX9_put_8 : decode cX9_put 8 = .ok (.getfield 22, 3) := by decide +kernel
theorem dX9_put_11 : decode cX9_put 11 = .ok (.iload_n 1, 1) := by decide +kernel
theorem dX9_put_12 : decode cX9_put 12 = .ok (.iload 4, 2) := by decide +kernel
theorem dX9_put_14 : decode cX9_put 14 = .ok (.iastore, 1) := by decide +kernel
theorem dX9_put_15 : decode cX9_put 15 = .ok (.aload_n 0, 1) := by decide +kernel
theorem dX9_put_16 : decode cX9_put 16 = .ok (.getfield 26, 3) := by decide +kernel
theorem dX9_put_19 : decode cX9_put 19 = .ok (.iload_n 1, 1) := by decide +kernel
theorem dX9_put_20 : decode cX9_put 20 = .ok (.iload 5, 2) := by decide +kernel
theorem dX9_put_22 : decode cX9_put 22 = .ok (.iastore, 1) := by decide +kernel
theorem dX9_put_23 : decode cX9_put 23 = .ok (.return_, 1) := by decide +kernel
theorem dX9_lastTime_0 : decode cX9_lastTime 0 = .ok (.aload_n 0, 1) := by decide +kernel
theorem dX9_lastTime_1 : decode cX9_lastTime 1 = .ok (.getfield 18, 3) := by decide +kernel
theorem dX9_lastTime_4 : decode cX9_lastTime 4 = .ok (.iload_n 1, 1) := by decide +kernel
theorem dX9_lastTime_5 : decode cX9_lastTime 5 = .ok (.laload, 1) := by decide +kernel
theorem dX9_lastTime_6 : decode cX9_lastTime 6 = .ok (.aload_n 0, 1) := by decide +kernel
theorem dX9_lastTime_7 : decode cX9_lastTime 7 = .ok (.getfield 9, 3) := by decide +kernel
theorem dX9_lastTime_10 : decode cX9_lastTime 10 = .ok (.lconst 1, 1) := by decide +kernel
theorem dX9_lastTime_11 : decode cX9_lastTime 11 = .ok (.lsub, 1) := by decide +kernel
theorem dX9_lastTime_12 : decode cX9_lastTime 12 = .ok (.invokestatic 51, 3) := by decide +kernel
theorem dX9_lastTime_15 : decode cX9_lastTime 15 = .ok (.lreturn, 1) := by decide +kernel
theorem dX9_dropFirst_0 : decode cX9_dropFirst 0 = .ok (.iconst 1, 1) := by decide +kernel
theorem dX9_dropFirst_1 : decode cX9_dropFirst 1 = .ok (.istore_n 1, 1) := by decide +kernel
theorem dX9_dropFirst_2 : decode cX9_dropFirst 2 = .ok (.iload_n 1, 1) := by decide +kernel
theorem dX9_dropFirst_3 : decode cX9_dropFirst 3 = .ok (.aload_n 0, 1) := by decide +kernel
theorem dX9_dropFirst_4 : decode cX9_dropFirst 4 = .ok (.getfield 39, 3) := by decide +kernel
theorem dX9_dropFirst_7 : decode cX9_dropFirst 7 = .ok (.if_icmp .ge 34, 3) := by decide +kernel
theorem dX9_dropFirst_10 : decode cX9_dropFirst 10 = .ok (.aload_n 0, 1) := by decide +kernel
theorem dX9_dropFirst_11 : decode cX9_dropFirst 11 = .ok (.iload_n 1, 1) := by decide +kernel
theorem dX9_dropFirst_12 : decode cX9_dropFirst 12 = .ok (.iconst 1, 1) := by decide +kernel
theorem dX9_dropFirst_13 : decode cX9_dropFirst 13 = .ok (.isub, 1) := by decide +kernel
theorem dX9_dropFirst_14 : decode cX9_dropFirst 14 = .ok (.aload_n 0, 1) := by decide +kernel
theorem dX9_dropFirst_15 : decode cX9_dropFirst 15 = .ok (.getfield 18, 3) := by decide +kernel
theorem dX9_dropFirst_18 : decode cX9_dropFirst 18 = .ok (.iload_n 1, 1) := by decide +kernel
theorem dX9_dropFirst_19 : decode cX9_dropFirst 19 = .ok (.laload, 1) := by decide +kernel
theorem dX9_dropFirst_20 : decode cX9_dropFirst 20 = .ok (.aload_n 0, 1) := by decide +kernel
theorem dX9_dropFirst_21 : decode cX9_dropFirst 21 = .ok (.getfield 22, 3) := by decide +kernel
theorem dX9_dropFirst_24 : decode cX9_dropFirst 24 = .ok (.iload_n 1, 1) := by decide +kernel
theorem dX9_dropFirst_25 : decode cX9_dropFirst 25 = .ok (.iaload, 1) := by decide +kernel
theorem dX9_dropFirst_26 : decode cX9_dropFirst 26 = .ok (.aload_n 0, 1) := by decide +kernel
theorem dX9_dropFirst_27 : decode cX9_dropFirst 27 = .ok (.getfield 26, 3) := by decide +kernel
theorem dX9_dropFirst_30 : decode cX9_dropFirst 30 = .ok (.iload_n 1, 1) := by decide +kernel
theorem dX9_dropFirst_31 : decode cX9_dropFirst 31 = .ok (.iaload, 1) := by decide +kernel
theorem dX9_dropFirst_32 : decode cX9_dropFirst 32 = .ok (.invokevirtual 47, 3) := by decide +kernel
theorem dX9_dropFirst_35 : decode cX9_dropFirst 35 = .ok (.iinc 1 1, 3) := by decide +kernel
theorem dX9_dropFirst_38 : decode cX9_dropFirst 38 = .ok (.goto (-36), 3) := by decide +kernel
theorem dX9_dropFirst_41 : decode cX9_dropFirst 41 = .ok (.aload_n 0, 1) := by decide +kernel
theorem dX9_dropFirst_42 : decode cX9_dropFirst 42 = .ok (.getfield 39, 3) := by decide +kernel
theorem dX9_dropFirst_45 : decode cX9_dropFirst 45 = .ok (.ifCond .le 13, 3) := by decide +kernel
theorem dX9_dropFirst_48 : decode cX9_dropFirst 48 = .ok (.aload_n 0, 1) := by decide +kernel
theorem dX9_dropFirst_49 : decode cX9_dropFirst 49 = .ok (.dup, 1) := by decide +kernel
theorem dX9_dropFirst_50 : decode cX9_dropFirst 50 = .ok (.getfield 39, 3) := by decide +kernel
theorem dX9_dropFirst_53 : decode cX9_dropFirst 53 = .ok (.iconst 1, 1) := by decide +kernel
theorem dX9_dropFirst_54 : decode cX9_dropFirst 54 = .ok (.isub, 1) := by decide +kernel
theorem dX9_dropFirst_55 : decode cX9_dropFirst 55 = .ok (.putfield 39, 3) := by decide +kernel
theorem dX9_dropFirst_58 : decode cX9_dropFirst 58 = .ok (.return_, 1) := by decide +kernel
theorem dX10_init_0 : decode cX10_init 0 = .ok (.aload_n 0, 1) := by decide +kernel
theorem dX10_init_1 : decode cX10_init 1 = .ok (.invokespecial 3, 3) := by decide +kernel
theorem dX10_init_4 : decode cX10_init 4 = .ok (.aload_n 0, 1) := by decide +kernel
theorem dX10_init_5 : decode cX10_init 5 = .ok (.new 9, 3) := by decide +kernel
theorem dX10_init_8 : decode cX10_init 8 = .ok (.dup, 1) := by decide +kernel
theorem dX10_init_9 : decode cX10_init 9 = .ok (.sipush 600, 3) := by decide +kernel
theorem dX10_init_12 : decode cX10_init 12 = .ok (.invokespecial 11, 3) := by decide +kernel
theorem dX10_init_15 : decode cX10_init 15 = .ok (.putfield 14, 3) := by decide +kernel
theorem dX10_init_18 : decode cX10_init 18 = .ok (.aload_n 0, 1) := by decide +kernel
theorem dX10_init_19 : decode cX10_init 19 = .ok (.new 9, 3) := by decide +kernel
theorem dX10_init_22 : decode cX10_init 22 = .ok (.dup, 1) := by decide +kernel
theorem dX10_init_23 : decode cX10_init 23 = .ok (.sipush 800, 3) := by decide +kernel
theorem dX10_init_26 : decode cX10_init 26 = .ok (.invokespecial 11, 3) := by decide +kernel
theorem dX10_init_29 : decode cX10_init 29 = .ok (.putfield 18, 3) := by decide +kernel
theorem dX10_init_32 : decode cX10_init 32 = .ok (.aload_n 0, 1) := by decide +kernel
theorem dX10_init_33 : decode cX10_init 33 = .ok (.new 21, 3) := by decide +kernel
theorem dX10_init_36 : decode cX10_init 36 = .ok (.dup, 1) := by decide +kernel
theorem dX10_init_37 : decode cX10_init 37 = .ok (.sipush 300, 3) := by decide +kernel
theorem dX10_init_40 : decode cX10_init 40 = .ok (.invokespecial 23, 3) := by decide +kernel
theorem dX10_init_43 : decode cX10_init 43 = .ok (.putfield 24, 3) := by decide +kernel
theorem dX10_init_46 : decode cX10_init 46 = .ok (.aload_n 0, 1) := by decide +kernel
theorem dX10_init_47 : decode cX10_init 47 = .ok (.new 21, 3) := by decide +kernel
theorem dX10_init_50 : decode cX10_init 50 = .ok (.dup, 1) := by decide +kernel
theorem dX10_init_51 : decode cX10_init 51 = .ok (.sipush 200, 3) := by decide +kernel
theorem dX10_init_54 : decode cX10_init 54 = .ok (.invokespecial 23, 3) := by decide +kernel
theorem dX10_init_57 : decode cX10_init 57 = .ok (.putfield 28, 3) := by decide +kernel
theorem dX10_init_60 : decode cX10_init 60 = .ok (.aload_n 0, 1) := by decide +kernel
theorem dX10_init_61 : decode cX10_init 61 = .ok (.aconst_null, 1) := by decide +kernel
theorem dX10_init_62 : decode cX10_init 62 = .ok (.putfield 31, 3) := by decide +kernel
theorem dX10_init_65 : decode cX10_init 65 = .ok (.aload_n 0, 1) := by decide +kernel
theorem dX10_init_66 : decode cX10_init 66 = .ok (.iconst 0, 1) := by decide +kernel
theorem dX10_init_67 : decode cX10_init 67 = .ok (.putfield 35, 3) := by decide +kernel
theorem dX10_init_70 : decode cX10_init 70 = .ok (.return_, 1) := by decide +kernel
theorem dX10_feed_0 : decode cX10_feed 0 = .ok (.iload_n 3, 1) := by decide +kernel
theorem dX10_feed_1 : decode cX10_feed 1 = .ok (.iconst 1, 1) := by decide +kernel
theorem dX10_feed_2 : decode cX10_feed 2 = .ok (.if_icmp .lt 24, 3) := by decide +kernel
theorem dX10_feed_5 : decode cX10_feed 5 = .ok (.iload_n 3, 1) := by decide +kernel
theorem dX10_feed_6 : decode cX10_feed 6 = .ok (.bipush 8, 2) := by decide +kernel
theorem dX10_feed_8 : decode cX10_feed 8 = .ok (.if_icmp .gt 18, 3) := by decide +kernel
theorem dX10_feed_11 : decode cX10_feed 11 = .ok (.iload_n 3, 1) := by decide +kernel
theorem dX10_feed_12 : decode cX10_feed 12 = .ok (.sipush 600, 3) := by decide +kernel
theorem dX10_feed_15 : decode cX10_feed 15 = .ok (.aload_n 0, 1) := by decide +kernel
theorem dX10_feed_16 : decode cX10_feed 16 = .ok (.getfield 14, 3) := by decide +kernel
theorem dX10_feed_19 : decode cX10_feed 19 = .ok (.getfield 39, 3) := by decide +kernel
theorem dX10_feed_22 : decode cX10_feed 22 = .ok (.isub, 1) := by decide +kernel
theorem dX10_feed_23 : decode cX10_feed 23 = .ok (.if_icmp .le 5, 3) := by decide +kernel
theorem dX10_feed_26 : decode cX10_feed 26 = .ok (.iconst (-1), 1) := by decide +kernel
theorem dX10_feed_27 : decode cX10_feed 27 = .ok (.ireturn, 1) := by decide +kernel
theorem dX10_feed_28 : decode cX10_feed 28 = .ok (.iload_n 3, 1) := by decide +kernel
theorem dX10_feed_29 : decode cX10_feed 29 = .ok (.iconst 1, 1) := by decide +kernel
theorem dX10_feed_30 : decode cX10_feed 30 = .ok (.isub, 1) := by decide +kernel
theorem dX10_feed_31 : decode cX10_feed 31 = .ok (.istore 4, 2) := by decide +kernel
theorem dX10_feed_33 : decode cX10_feed 33 = .ok (.iload 4, 2) := by decide +kernel
theorem dX10_feed_35 : decode cX10_feed 35 = .ok (.ifCond .lt 28, 3) := by decide +kernel
theorem dX10_feed_38 : decode cX10_feed 38 = .ok (.aload_n 0, 1) := by decide +kernel
theorem dX10_feed_39 : decode cX10_feed 39 = .ok (.getfield 14, 3) := by decide +kernel
theorem dX10_feed_42 : decode cX10_feed 42 = .ok (.lload_n 1, 1) := by decide +kernel
theorem dX10_feed_43 : decode cX10_feed 43 = .ok (.bipush 8, 2) := by decide +kernel
theorem dX10_feed_45 : decode cX10_feed 45 = .ok (.iload 4, 2) := by decide +kernel
theorem dX10_feed_47 : decode cX10_feed 47 = .ok (.imul, 1) := by decide +kernel
theorem dX10_feed_48 : decode cX10_feed 48 = .ok (.lushr, 1) := by decide +kernel
theorem dX10_feed_49 : decode cX10_feed 49 = .ok (.l2i, 1) := by decide +kernel
theorem dX10_feed_50 : decode cX10_feed 50 = .ok (.sipush 255, 3) := by decide +kernel
theorem dX10_feed_53 : decode cX10_feed 53 = .ok (.iand, 1) := by decide +kernel
theorem dX10_feed_54 : decode cX10_feed 54 = .ok (.invokevirtual 42, 3) := by decide +kernel
theorem dX10_feed_57 : decode cX10_feed 57 = .ok (.iinc 4 (-1), 3) := by decide +kernel
theorem dX10_feed_60 : decode cX10_feed 60 = .ok (.goto (-27), 3) := by decide +kernel
theorem dX10_feed_63 : decode cX10_feed 63 = .ok (.aload_n 0, 1) := by decide +kernel
theorem dX10_feed_64 : decode cX10_feed 64 = .ok (.getfield 14, 3) := by decide +kernel
theorem dX10_feed_67 : decode cX10_feed 67 = .ok (.getfield 39, 3) := by decide +kernel
theorem dX10_feed_70 : decode cX10_feed 70 = .ok (.ireturn, 1) := by decide +kernel
theorem dX10_build_0 : decode cX10_build 0 = .ok (.new 45, 3) := by decide +kernel
theorem dX10_build_3 : decode cX10_build 3 = .ok (.dup, 1) := by decide +kernel
theorem dX10_build_4 : decode cX10_build 4 = .ok (.new 47, 3) := by decide +kernel
theorem dX10_build_7 : decode cX10_build 7 = .ok (.dup, 1) := by decide +kernel
theorem dX10_build_8 : decode cX10_build 8 = .ok (.aload_n 0, 1) := by decide +kernel
theorem dX10_build_9 : decode cX10_build 9 = .ok (.getfield 14, 3) := by decide +kernel
theorem dX10_build_12 : decode cX10_build 12 = .ok (.invokespecial 49, 3) := by decide +kernel
theorem dX10_build_15 : decode cX10_build 15 = .ok (.new 52, 3) := by decide +kernel
theorem dX10_build_18 : decode cX10_build 18 = .ok (.dup, 1) := by decide +kernel
theorem dX10_build_19 : decode cX10_build 19 = .ok (.aload_n 0, 1) := by decide +kernel
theorem dX10_build_20 : decode cX10_build 20 = .ok (.getfield 24, 3) := by decide +kernel
theorem dX10_build_23 : decode cX10_build 23 = .ok (.aload_n 0, 1) := by decide +kernel
theorem dX10_build_24 : decode cX10_build 24 = .ok (.getfield 28, 3) := by decide +kernel
theorem dX10_build_27 : decode cX10_build 27 = .ok (.invokespecial 54, 3) := by decide +kernel
theorem dX10_build_30 : decode cX10_build 30 = .ok (.invokespecial 57, 3) := by decide +kernel
theorem dX10_build_33 : decode cX10_build 33 = .ok (.astore_n 1, 1) := by decide +kernel
theorem dX10_build_34 : decode cX10_build 34 = .ok (.aload_n 1, 1) := by decide +kernel
theorem dX10_build_35 : decode cX10_build 35 = .ok (.invokevirtual 60, 3) := by decide +kernel
theorem dX10_build_38 : decode cX10_build 38 = .ok (.istore_n 2, 1) := by decide +kernel
theorem dX10_build_39 : decode cX10_build 39 = .ok (.aload_n 0, 1) := by decide +kernel
theorem dX10_build_40 : decode cX10_build 40 = .ok (.getfield 14, 3) := by decide +kernel
theorem dX10_build_43 : decode cX10_build 43 = .ok (.invokevirtual 64, 3) := by decide +kernel
theorem dX10_build_46 : decode cX10_build 46 = .ok (.aload_n 0, 1) := by decide +kernel
theorem dX10_build_47 : decode cX10_build 47 = .ok (.aload_n 1, 1) := by decide +kernel
theorem dX10_build_48 : decode cX10_build 48 = .ok (.getfield 67, 3) := by decide +kernel
theorem dX10_build_51 : decode cX10_build 51 = .ok (.putfield 35, 3) := by decide +kernel
theorem dX10_build_54 : decode cX10_build 54 = .ok (.iload_n 2, 1) := by decide +kernel
theorem dX10_build_55 : decode cX10_build 55 = .ok (.ifCond .ne 11, 3) := by decide +kernel
theorem dX10_build_58 : decode cX10_build 58 = .ok (.bipush (-10), 2) := by decide +kernel
theorem dX10_build_60 : decode cX10_build 60 = .ok (.aload_n 1, 1) := by decide +kernel
theorem dX10_build_61 : decode cX10_build 61 = .ok (.getfield 68, 3) := by decide +kernel
theorem dX10_build_64 : decode cX10_build 64 = .ok (.isub, 1) := by decide +kernel
theorem dX10_build_65 : decode cX10_build 65 = .ok (.ireturn, 1) := by decide +kernel
theorem dX10_build_66 : decode cX10_build 66 = .ok (.aload_n 0, 1) := by decide +kernel
theorem dX10_build_67 : decode cX10_build 67 = .ok (.aload_n 1, 1) := by decide +kernel
theorem dX10_build_68 : decode cX10_build 68 = .ok (.getfield 71, 3) := by decide +kernel
theorem dX10_build_71 : decode cX10_build 71 = .ok (.putfield 31, 3) := by decide +kernel
theorem dX10_build_74 : decode cX10_build 74 = .ok (.aload_n 0, 1) := by decide +kernel
theorem dX10_build_75 : decode cX10_build 75 = .ok (.getfield 24, 3) := by decide +kernel
theorem dX10_build_78 : decode cX10_build 78 = .ok (.invokevirtual 72, 3) := by decide +kernel
theorem dX10_build_81 : decode cX10_build 81 = .ok (.aload_n 0, 1) := by decide +kernel
theorem dX10_build_82 : decode cX10_build 82 = .ok (.getfield 28, 3) := by decide +kernel
theorem dX10_build_85 : decode cX10_build 85 = .ok (.invokevirtual 72, 3) := by decide +kernel
theorem dX10_build_88 : decode cX10_build 88 = .ok (.aload_n 0, 1) := by decide +kernel
theorem dX10_build_89 : decode cX10_build 89 = .ok (.getfield 31, 3) := by decide +kernel
theorem dX10_build_92 : decode cX10_build 92 = .ok (.getfield 73, 3) := by decide +kernel
theorem dX10_build_95 : decode cX10_build 95 = .ok (.ireturn, 1) := by decide +kernel
theorem dX10_fault_0 : decode cX10_fault 0 = .ok (.aload_n 0, 1) := by decide +kernel
theorem dX10_fault_1 : decode cX10_fault 1 = .ok (.getfield 35, 3) := by decide +kernel
theorem dX10_fault_4 : decode cX10_fault 4 = .ok (.ireturn, 1) := by decide +kernel
theorem dX10_row_0 : decode cX10_row 0 = .ok (.aload_n 0, 1) := by decide +kernel
theorem dX10_row_1 : decode cX10_row 1 = .ok (.iload_n 1, 1) := by decide +kernel
theorem dX10_row_2 : decode cX10_row 2 = .ok (.iload_n 2, 1) := by decide +kernel
theorem dX10_row_3 : decode cX10_row 3 = .ok (.invokevirtual 76, 3) := by decide +kernel
theorem dX10_row_6 : decode cX10_row 6 = .ok (.astore 6, 2) := by decide +kernel
theorem dX10_row_8 : decode cX10_row 8 = .ok (.aload 6, 2) := by decide +kernel
theorem dX10_row_10 : decode cX10_row 10 = .ok (.ifnull 18, 3) := by decide +kernel
theorem dX10_row_13 : decode cX10_row 13 = .ok (.lload_n 3, 1) := by decide +kernel
theorem dX10_row_14 : decode cX10_row 14 = .ok (.invokestatic 80, 3) := by decide +kernel
theorem dX10_row_17 : decode cX10_row 17 = .ok (.ifCond .eq 11, 3) := by decide +kernel
theorem dX10_row_20 : decode cX10_row 20 = .ok (.iload 5, 2) := by decide +kernel
theorem dX10_row_22 : decode cX10_row 22 = .ok (.invokestatic 84, 3) := by decide +kernel
theorem dX10_row_25 : decode cX10_row 25 = .ok (.ifCond .ne 5, 3) := by decide +kernel
theorem dX10_row_28 : decode cX10_row 28 = .ok (.iconst (-1), 1) := by decide +kernel
theorem dX10_row_29 : decode cX10_row 29 = .ok (.ireturn, 1) := by decide +kernel
theorem dX10_row_30 : decode cX10_row 30 = .ok (.aload_n 0, 1) := by decide +kernel
theorem dX10_row_31 : decode cX10_row 31 = .ok (.getfield 31, 3) := by decide +kernel
theorem dX10_row_34 : decode cX10_row 34 = .ok (.aload 6, 2) := by decide +kernel
theorem dX10_row_36 : decode cX10_row 36 = .ok (.getfield 88, 3) := by decide +kernel
theorem dX10_row_39 : decode cX10_row 39 = .ok (.iload_n 2, 1) := by decide +kernel
theorem dX10_row_40 : decode cX10_row 40 = .ok (.invokevirtual 94, 3) := by decide +kernel
theorem dX10_row_43 : decode cX10_row 43 = .ok (.istore 7, 2) := by decide +kernel
theorem dX10_row_45 : decode cX10_row 45 = .ok (.iload 7, 2) := by decide +kernel
theorem dX10_row_47 : decode cX10_row 47 = .ok (.ifCond .eq 6, 3) := by decide +kernel
theorem dX10_row_50 : decode cX10_row 50 = .ok (.iload 7, 2) := by decide +kernel
theorem dX10_row_52 : decode cX10_row 52 = .ok (.ireturn, 1) := by decide +kernel
theorem dX10_row_53 : decode cX10_row 53 = .ok (.aload_n 0, 1) := by decide +kernel
theorem dX10_row_54 : decode cX10_row 54 = .ok (.getfield 31, 3) := by decide +kernel
theorem dX10_row_57 : decode cX10_row 57 = .ok (.aload 6, 2) := by decide +kernel
theorem dX10_row_59 : decode cX10_row 59 = .ok (.iload_n 2, 1) := by decide +kernel
theorem dX10_row_60 : decode cX10_row 60 = .ok (.lload_n 3, 1) := by decide +kernel
theorem dX10_row_61 : decode cX10_row 61 = .ok (.iload 5, 2) := by decide +kernel
theorem dX10_row_63 : decode cX10_row 63 = .ok (.invokevirtual 98, 3) := by decide +kernel
theorem dX10_row_66 : decode cX10_row 66 = .ok (.istore 8, 2) := by decide +kernel
theorem dX10_row_68 : decode cX10_row 68 = .ok (.aload_n 0, 1) := by decide +kernel
theorem dX10_row_69 : decode cX10_row 69 = .ok (.getfield 31, 3) := by decide +kernel
theorem dX10_row_72 : decode cX10_row 72 = .ok (.invokevirtual 102, 3) := by decide +kernel
theorem dX10_row_75 : decode cX10_row 75 = .ok (.iload 8, 2) := by decide +kernel
theorem dX10_row_77 : decode cX10_row 77 = .ok (.ireturn, 1) := by decide +kernel
theorem dX10_mark_0 : decode cX10_mark 0 = .ok (.aload_n 0, 1) := by decide +kernel
theorem dX10_mark_1 : decode cX10_mark 1 = .ok (.iload_n 1, 1) := by decide +kernel
theorem dX10_mark_2 : decode cX10_mark 2 = .ok (.iload_n 2, 1) := by decide +kernel
theorem dX10_mark_3 : decode cX10_mark 3 = .ok (.invokevirtual 76, 3) := by decide +kernel
theorem dX10_mark_6 : decode cX10_mark 6 = .ok (.astore 5, 2) := by decide +kernel
theorem dX10_mark_8 : decode cX10_mark 8 = .ok (.aload 5, 2) := by decide +kernel
theorem dX10_mark_10 : decode cX10_mark 10 = .ok (.ifnull 10, 3) := by decide +kernel
theorem dX10_mark_13 : decode cX10_mark 13 = .ok (.lload_n 3, 1) := by decide +kernel
theorem dX10_mark_14 : decode cX10_mark 14 = .ok (.invokestatic 80, 3) := by decide +kernel
theorem dX10_mark_17 : decode cX10_mark 17 = .ok (.ifCond .ne 5, 3) := by decide +kernel
theorem dX10_mark_20 : decode cX10_mark 20 = .ok (.iconst (-1), 1) := by decide +kernel
theorem dX10_mark_21 : decode cX10_mark 21 = .ok (.ireturn, 1) := by decide +kernel
theorem dX10_mark_22 : decode cX10_mark 22 = .ok (.aload_n 0, 1) := by decide +kernel
theorem dX10_mark_23 : decode cX10_mark 23 = .ok (.getfield 31, 3) := by decide +kernel
theorem dX10_mark_26 : decode cX10_mark 26 = .ok (.aload 5, 2) := by decide +kernel
theorem dX10_mark_28 : decode cX10_mark 28 = .ok (.getfield 88, 3) := by decide +kernel
theorem dX10_mark_31 : decode cX10_mark 31 = .ok (.iload_n 2, 1) := by decide +kernel
theorem dX10_mark_32 : decode cX10_mark 32 = .ok (.invokevirtual 94, 3) := by decide +kernel
theorem dX10_mark_35 : decode cX10_mark 35 = .ok (.istore 6, 2) := by decide +kernel
theorem dX10_mark_37 : decode cX10_mark 37 = .ok (.iload 6, 2) := by decide +kernel
theorem dX10_mark_39 : decode cX10_mark 39 = .ok (.ifCond .eq 6, 3) := by decide +kernel
theorem dX10_mark_42 : decode cX10_mark 42 = .ok (.iload 6, 2) := by decide +kernel
theorem dX10_mark_44 : decode cX10_mark 44 = .ok (.ireturn, 1) := by decide +kernel
theorem dX10_mark_45 : decode cX10_mark 45 = .ok (.aload 5, 2) := by decide +kernel
theorem dX10_mark_47 : decode cX10_mark 47 = .ok (.getfield 88, 3) := by decide +kernel
theorem dX10_mark_50 : decode cX10_mark 50 = .ok (.iload_n 2, 1) := by decide +kernel
theorem dX10_mark_51 : decode cX10_mark 51 = .ok (.aload_n 0, 1) := by decide +kernel
theorem dX10_mark_52 : decode cX10_mark 52 = .ok (.getfield 31, 3) := by decide +kernel
theorem dX10_mark_55 : decode cX10_mark 55 = .ok (.getfield 105, 3) := by decide +kernel
theorem dX10_mark_58 : decode cX10_mark 58 = .ok (.invokevirtual 108, 3) := by decide +kernel
theorem dX10_mark_61 : decode cX10_mark 61 = .ok (.aload 5, 2) := by decide +kernel
theorem dX10_mark_63 : decode cX10_mark 63 = .ok (.getfield 88, 3) := by decide +kernel
theorem dX10_mark_66 : decode cX10_mark 66 = .ok (.iload_n 2, 1) := by decide +kernel
theorem dX10_mark_67 : decode cX10_mark 67 = .ok (.lload_n 3, 1) := by decide +kernel
theorem dX10_mark_68 : decode cX10_mark 68 = .ok (.invokevirtual 114, 3) := by decide +kernel
theorem dX10_mark_71 : decode cX10_mark 71 = .ok (.istore 7, 2) := by decide +kernel
theorem dX10_mark_73 : decode cX10_mark 73 = .ok (.aload_n 0, 1) := by decide +kernel
theorem dX10_mark_74 : decode cX10_mark 74 = .ok (.getfield 31, 3) := by decide +kernel
theorem dX10_mark_77 : decode cX10_mark 77 = .ok (.invokevirtual 102, 3) := by decide +kernel
theorem dX10_mark_80 : decode cX10_mark 80 = .ok (.iload 7, 2) := by decide +kernel
theorem dX10_mark_82 : decode cX10_mark 82 = .ok (.ifCond .eq 7, 3) := by decide +kernel
theorem dX10_mark_85 : decode cX10_mark 85 = .ok (.iconst 1, 1) := by decide +kernel
theorem dX10_mark_86 : decode cX10_mark 86 = .ok (.goto 4, 3) := by decide +kernel
theorem dX10_mark_89 : decode cX10_mark 89 = .ok (.iconst 0, 1) := by decide +kernel
theorem dX10_mark_90 : decode cX10_mark 90 = .ok (.ireturn, 1) := by decide +kernel
theorem dX10_end_0 : decode cX10_end 0 = .ok (.aload_n 0, 1) := by decide +kernel
theorem dX10_end_1 : decode cX10_end 1 = .ok (.iload_n 1, 1) := by decide +kernel
theorem dX10_end_2 : decode cX10_end 2 = .ok (.iload_n 2, 1) := by decide +kernel
theorem dX10_end_3 : decode cX10_end 3 = .ok (.invokevirtual 76, 3) := by decide +kernel
theorem dX10_end_6 : decode cX10_end 6 = .ok (.astore_n 3, 1) := by decide +kernel
theorem dX10_end_7 : decode cX10_end 7 = .ok (.aload_n 3, 1) := by decide +kernel
theorem dX10_end_8 : decode cX10_end 8 = .ok (.ifnonnull 5, 3) := by decide +kernel
theorem dX10_end_11 : decode cX10_end 11 = .ok (.iconst (-1), 1) := by decide +kernel
theorem dX10_end_12 : decode cX10_end 12 = .ok (.ireturn, 1) := by decide +kernel
theorem dX10_end_13 : decode cX10_end 13 = .ok (.aload_n 3, 1) := by decide +kernel
theorem dX10_end_14 : decode cX10_end 14 = .ok (.getfield 88, 3) := by decide +kernel
theorem dX10_end_17 : decode cX10_end 17 = .ok (.getfield 118, 3) := by decide +kernel
theorem dX10_end_20 : decode cX10_end 20 = .ok (.iload_n 2, 1) := by decide +kernel
theorem dX10_end_21 : decode cX10_end 21 = .ok (.iaload, 1) := by decide +kernel
theorem dX10_end_22 : decode cX10_end 22 = .ok (.iconst 2, 1) := by decide +kernel
theorem dX10_end_23 : decode cX10_end 23 = .ok (.if_icmp .ne 6, 3) := by decide +kernel
theorem dX10_end_26 : decode cX10_end 26 = .ok (.bipush (-2), 2) := by decide +kernel
theorem dX10_end_28 : decode cX10_end 28 = .ok (.ireturn, 1) := by decide +kernel
theorem dX10_end_29 : decode cX10_end 29 = .ok (.aload_n 3, 1) := by decide +kernel
theorem dX10_end_30 : decode cX10_end 30 = .ok (.getfield 88, 3) := by decide +kernel
theorem dX10_end_33 : decode cX10_end 33 = .ok (.iload_n 2, 1) := by decide +kernel
theorem dX10_end_34 : decode cX10_end 34 = .ok (.invokevirtual 122, 3) := by decide +kernel
theorem dX10_end_37 : decode cX10_end 37 = .ok (.aload_n 0, 1) := by decide +kernel
theorem dX10_end_38 : decode cX10_end 38 = .ok (.getfield 31, 3) := by decide +kernel
theorem dX10_end_41 : decode cX10_end 41 = .ok (.invokevirtual 102, 3) := by decide +kernel
theorem dX10_end_44 : decode cX10_end 44 = .ok (.iconst 1, 1) := by decide +kernel
theorem dX10_end_45 : decode cX10_end 45 = .ok (.ireturn, 1) := by decide +kernel
theorem dX10_idle_0 : decode cX10_idle 0 = .ok (.aload_n 0, 1) := by decide +kernel
theorem dX10_idle_1 : decode cX10_idle 1 = .ok (.iload_n 1, 1) := by decide +kernel
theorem dX10_idle_2 : decode cX10_idle 2 = .ok (.iload_n 2, 1) := by decide +kernel
theorem dX10_idle_3 : decode cX10_idle 3 = .ok (.invokevirtual 76, 3) := by decide +kernel
theorem dX10_idle_6 : decode cX10_idle 6 = .ok (.astore 4, 2) := by decide +kernel
theorem dX10_idle_8 : decode cX10_idle 8 = .ok (.aload 4, 2) := by decide +kernel
theorem dX10_idle_10 : decode cX10_idle 10 = .ok (.ifnonnull 5, 3) := by decide +kernel
theorem dX10_idle_13 : decode cX10_idle 13 = .ok (.iconst (-1), 1) := by decide +kernel
theorem dX10_idle_14 : decode cX10_idle 14 = .ok (.ireturn, 1) := by decide +kernel
theorem dX10_idle_15 : decode cX10_idle 15 = .ok (.aload 4, 2) := by decide +kernel
theorem dX10_idle_17 : decode cX10_idle 17 = .ok (.getfield 88, 3) := by decide +kernel
theorem dX10_idle_20 : decode cX10_idle 20 = .ok (.getfield 118, 3) := by decide +kernel
theorem dX10_idle_23 : decode cX10_idle 23 = .ok (.iload_n 2, 1) := by decide +kernel
theorem dX10_idle_24 : decode cX10_idle 24 = .ok (.iaload, 1) := by decide +kernel
theorem dX10_idle_25 : decode cX10_idle 25 = .ok (.istore 5, 2) := by decide +kernel
theorem dX10_idle_27 : decode cX10_idle 27 = .ok (.iload 5, 2) := by decide +kernel
theorem dX10_idle_29 : decode cX10_idle 29 = .ok (.iconst 2, 1) := by decide +kernel
theorem dX10_idle_30 : decode cX10_idle 30 = .ok (.if_icmp .ne 6, 3) := by decide +kernel
theorem dX10_idle_33 : decode cX10_idle 33 = .ok (.bipush (-2), 2) := by decide +kernel
theorem dX10_idle_35 : decode cX10_idle 35 = .ok (.ireturn, 1) := by decide +kernel
theorem dX10_idle_36 : decode cX10_idle 36 = .ok (.iload 5, 2) := by decide +kernel
theorem dX10_idle_38 : decode cX10_idle 38 = .ok (.iconst 1, 1) := by decide +kernel
theorem dX10_idle_39 : decode cX10_idle 39 = .ok (.if_icmp .ne 7, 3) := by decide +kernel
theorem dX10_idle_42 : decode cX10_idle 42 = .ok (.iconst 1, 1) := by decide +kernel
theorem dX10_idle_43 : decode cX10_idle 43 = .ok (.goto 4, 3) := by decide +kernel
theorem dX10_idle_46 : decode cX10_idle 46 = .ok (.iconst 0, 1) := by decide +kernel
theorem dX10_idle_47 : decode cX10_idle 47 = .ok (.iload_n 3, 1) := by decide +kernel
theorem dX10_idle_48 : decode cX10_idle 48 = .ok (.if_icmp .ne 5, 3) := by decide +kernel
theorem dX10_idle_51 : decode cX10_idle 51 = .ok (.iconst 0, 1) := by decide +kernel
theorem dX10_idle_52 : decode cX10_idle 52 = .ok (.ireturn, 1) := by decide +kernel
theorem dX10_idle_53 : decode cX10_idle 53 = .ok (.iload_n 3, 1) := by decide +kernel
theorem dX10_idle_54 : decode cX10_idle 54 = .ok (.ifCond .eq 17, 3) := by decide +kernel
theorem dX10_idle_57 : decode cX10_idle 57 = .ok (.aload 4, 2) := by decide +kernel
theorem dX10_idle_59 : decode cX10_idle 59 = .ok (.getfield 88, 3) := by decide +kernel
theorem dX10_idle_62 : decode cX10_idle 62 = .ok (.getfield 118, 3) := by decide +kernel
theorem dX10_idle_65 : decode cX10_idle 65 = .ok (.iload_n 2, 1) := by decide +kernel
theorem dX10_idle_66 : decode cX10_idle 66 = .ok (.iconst 1, 1) := by decide +kernel
theorem dX10_idle_67 : decode cX10_idle 67 = .ok (.iastore, 1) := by decide +kernel
theorem dX10_idle_68 : decode cX10_idle 68 = .ok (.goto 19, 3) := by decide +kernel
theorem dX10_idle_71 : decode cX10_idle 71 = .ok (.aload 4, 2) := by decide +kernel
theorem dX10_idle_73 : decode cX10_idle 73 = .ok (.getfield 88, 3) := by decide +kernel
theorem dX10_idle_76 : decode cX10_idle 76 = .ok (.iload_n 2, 1) := by decide +kernel
theorem dX10_idle_77 : decode cX10_idle 77 = .ok (.aload_n 0, 1) := by decide +kernel
theorem dX10_idle_78 : decode cX10_idle 78 = .ok (.getfield 31, 3) := by decide +kernel
theorem dX10_idle_81 : decode cX10_idle 81 = .ok (.getfield 105, 3) := by decide +kernel
theorem dX10_idle_84 : decode cX10_idle 84 = .ok (.invokevirtual 108, 3) := by decide +kernel
theorem dX10_idle_87 : decode cX10_idle 87 = .ok (.aload_n 0, 1) := by decide +kernel
theorem dX10_idle_88 : decode cX10_idle 88 = .ok (.getfield 31, 3) := by decide +kernel
theorem dX10_idle_91 : decode cX10_idle 91 = .ok (.invokevirtual 102, 3) := by decide +kernel
theorem dX10_idle_94 : decode cX10_idle 94 = .ok (.iconst 1, 1) := by decide +kernel
theorem dX10_idle_95 : decode cX10_idle 95 = .ok (.ireturn, 1) := by decide +kernel
theorem dX10_turn_0 : decode cX10_turn 0 = .ok (.aload_n 0, 1) := by decide +kernel
theorem dX10_turn_1 : decode cX10_turn 1 = .ok (.getfield 31, 3) := by decide +kernel
theorem dX10_turn_4 : decode cX10_turn 4 = .ok (.ifnull 15, 3) := by decide +kernel
theorem dX10_turn_7 : decode cX10_turn 7 = .ok (.iload_n 1, 1) := by decide +kernel
theorem dX10_turn_8 : decode cX10_turn 8 = .ok (.iconst 1, 1) := by decide +kernel
theorem dX10_turn_9 : decode cX10_turn 9 = .ok (.if_icmp .lt 10, 3) := by decide +kernel
theorem dX10_turn_12 : decode cX10_turn 12 = .ok (.iload_n 1, 1) := by decide +kernel
theorem dX10_turn_13 : decode cX10_turn 13 = .ok (.sipush 1000, 3) := by decide +kernel
theorem dX10_turn_16 : decode cX10_turn 16 = .ok (.if_icmp .le 5, 3) := by decide +kernel
theorem dX10_turn_19 : decode cX10_turn 19 = .ok (.iconst (-1), 1) := by decide +kernel
theorem dX10_turn_20 : decode cX10_turn 20 = .ok (.ireturn, 1) := by decide +kernel
theorem dX10_turn_21 : decode cX10_turn 21 = .ok (.aload_n 0, 1) := by decide +kernel
theorem dX10_turn_22 : decode cX10_turn 22 = .ok (.getfield 31, 3) := by decide +kernel
theorem dX10_turn_25 : decode cX10_turn 25 = .ok (.iload_n 1, 1) := by decide +kernel
theorem dX10_turn_26 : decode cX10_turn 26 = .ok (.invokevirtual 125, 3) := by decide +kernel
theorem dX10_turn_29 : decode cX10_turn 29 = .ok (.istore_n 2, 1) := by decide +kernel
theorem dX10_turn_30 : decode cX10_turn 30 = .ok (.aload_n 0, 1) := by decide +kernel
theorem dX10_turn_31 : decode cX10_turn 31 = .ok (.getfield 31, 3) := by decide +kernel
theorem dX10_turn_34 : decode cX10_turn 34 = .ok (.invokevirtual 102, 3) := by decide +kernel
theorem dX10_turn_37 : decode cX10_turn 37 = .ok (.iload_n 2, 1) := by decide +kernel
theorem dX10_turn_38 : decode cX10_turn 38 = .ok (.ireturn, 1) := by decide +kernel
theorem dX10_hold_0 : decode cX10_hold 0 = .ok (.aload_n 0, 1) := by decide +kernel
theorem dX10_hold_1 : decode cX10_hold 1 = .ok (.iload_n 1, 1) := by decide +kernel
theorem dX10_hold_2 : decode cX10_hold 2 = .ok (.invokevirtual 129, 3) := by decide +kernel
theorem dX10_hold_5 : decode cX10_hold 5 = .ok (.astore 4, 2) := by decide +kernel
theorem dX10_hold_7 : decode cX10_hold 7 = .ok (.aload 4, 2) := by decide +kernel
theorem dX10_hold_9 : decode cX10_hold 9 = .ok (.ifnull 22, 3) := by decide +kernel
theorem dX10_hold_12 : decode cX10_hold 12 = .ok (.aload 4, 2) := by decide +kernel
theorem dX10_hold_14 : decode cX10_hold 14 = .ok (.getfield 133, 3) := by decide +kernel
theorem dX10_hold_17 : decode cX10_hold 17 = .ok (.ldc2_w 137, 3) := by decide +kernel
theorem dX10_hold_20 : decode cX10_hold 20 = .ok (.lcmp, 1) := by decide +kernel
theorem dX10_hold_21 : decode cX10_hold 21 = .ok (.ifCond .ne 10, 3) := by decide +kernel
theorem dX10_hold_24 : decode cX10_hold 24 = .ok (.lload_n 2, 1) := by decide +kernel
theorem dX10_hold_25 : decode cX10_hold 25 = .ok (.invokestatic 80, 3) := by decide +kernel
theorem dX10_hold_28 : decode cX10_hold 28 = .ok (.ifCond .ne 5, 3) := by decide +kernel
theorem dX10_hold_31 : decode cX10_hold 31 = .ok (.iconst (-1), 1) := by decide +kernel
theorem dX10_hold_32 : decode cX10_hold 32 = .ok (.ireturn, 1) := by decide +kernel
theorem dX10_hold_33 : decode cX10_hold 33 = .ok (.aload_n 0, 1) := by decide +kernel
theorem dX10_hold_34 : decode cX10_hold 34 = .ok (.getfield 31, 3) := by decide +kernel
theorem dX10_hold_37 : decode cX10_hold 37 = .ok (.getfield 139, 3) := by decide +kernel
theorem dX10_hold_40 : decode cX10_hold 40 = .ok (.getfield 143, 3) := by decide +kernel
theorem dX10_hold_43 : decode cX10_hold 43 = .ok (.bipush 60, 2) := by decide +kernel
theorem dX10_hold_45 : decode cX10_hold 45 = .ok (.if_icmp .lt 6, 3) := by decide +kernel
theorem dX10_hold_48 : decode cX10_hold 48 = .ok (.bipush (-4), 2) := by decide +kernel
theorem dX10_hold_50 : decode cX10_hold 50 = .ok (.ireturn, 1) := by decide +kernel
theorem dX10_hold_51 : decode cX10_hold 51 = .ok (.lload_n 2, 1) := by decide +kernel
theorem dX10_hold_52 : decode cX10_hold 52 = .ok (.aload 4, 2) := by decide +kernel
theorem dX10_hold_54 : decode cX10_hold 54 = .ok (.getfield 148, 3) := by decide +kernel
theorem dX10_hold_57 : decode cX10_hold 57 = .ok (.lcmp, 1) := by decide +kernel
theorem dX10_hold_58 : decode cX10_hold 58 = .ok (.ifCond .gt 6, 3) := by decide +kernel
theorem dX10_hold_61 : decode cX10_hold 61 = .ok (.bipush (-5), 2) := by decide +kernel
theorem dX10_hold_63 : decode cX10_hold 63 = .ok (.ireturn, 1) := by decide +kernel
theorem dX10_hold_64 : decode cX10_hold 64 = .ok (.aload_n 0, 1) := by decide +kernel
theorem dX10_hold_65 : decode cX10_hold 65 = .ok (.getfield 31, 3) := by decide +kernel
theorem dX10_hold_68 : decode cX10_hold 68 = .ok (.getfield 139, 3) := by decide +kernel
theorem dX10_hold_71 : decode cX10_hold 71 = .ok (.iload_n 1, 1) := by decide +kernel
theorem dX10_hold_72 : decode cX10_hold 72 = .ok (.lload_n 2, 1) := by decide +kernel
theorem dX10_hold_73 : decode cX10_hold 73 = .ok (.invokevirtual 151, 3) := by decide +kernel
theorem dX10_hold_76 : decode cX10_hold 76 = .ok (.istore 5, 2) := by decide +kernel
theorem dX10_hold_78 : decode cX10_hold 78 = .ok (.aload_n 0, 1) := by decide +kernel
theorem dX10_hold_79 : decode cX10_hold 79 = .ok (.getfield 31, 3) := by decide +kernel
theorem dX10_hold_82 : decode cX10_hold 82 = .ok (.invokevirtual 102, 3) := by decide +kernel
theorem dX10_hold_85 : decode cX10_hold 85 = .ok (.iload 5, 2) := by decide +kernel
theorem dX10_hold_87 : decode cX10_hold 87 = .ok (.ireturn, 1) := by decide +kernel
theorem dX10_release_0 : decode cX10_release 0 = .ok (.aload_n 0, 1) := by decide +kernel
theorem dX10_release_1 : decode cX10_release 1 = .ok (.getfield 31, 3) := by decide +kernel
theorem dX10_release_4 : decode cX10_release 4 = .ok (.ifnull 24, 3) := by decide +kernel
theorem dX10_release_7 : decode cX10_release 7 = .ok (.aload_n 0, 1) := by decide +kernel
theorem dX10_release_8 : decode cX10_release 8 = .ok (.getfield 31, 3) := by decide +kernel
theorem dX10_release_11 : decode cX10_release 11 = .ok (.getfield 139, 3) := by decide +kernel
theorem dX10_release_14 : decode cX10_release 14 = .ok (.iload_n 1, 1) := by decide +kernel
theorem dX10_release_15 : decode cX10_release 15 = .ok (.invokevirtual 155, 3) := by decide +kernel
theorem dX10_release_18 : decode cX10_release 18 = .ok (.ifCond .eq 10, 3) := by decide +kernel
theorem dX10_release_21 : decode cX10_release 21 = .ok (.iload_n 3, 1) := by decide +kernel
theorem dX10_release_22 : decode cX10_release 22 = .ok (.invokestatic 84, 3) := by decide +kernel
theorem dX10_release_25 : decode cX10_release 25 = .ok (.ifCond .ne 5, 3) := by decide +kernel
theorem dX10_release_28 : decode cX10_release 28 = .ok (.iconst (-1), 1) := by decide +kernel
theorem dX10_release_29 : decode cX10_release 29 = .ok (.ireturn, 1) := by decide +kernel
theorem dX10_release_30 : decode cX10_release 30 = .ok (.iload_n 2, 1) := by decide +kernel
theorem dX10_release_31 : decode cX10_release 31 = .ok (.ifCond .eq 12, 3) := by decide +kernel
theorem dX10_release_34 : decode cX10_release 34 = .ok (.aload_n 0, 1) := by decide +kernel
theorem dX10_release_35 : decode cX10_release 35 = .ok (.getfield 31, 3) := by decide +kernel
theorem dX10_release_38 : decode cX10_release 38 = .ok (.iload_n 1, 1) := by decide +kernel
theorem dX10_release_39 : decode cX10_release 39 = .ok (.iload_n 3, 1) := by decide +kernel
theorem dX10_release_40 : decode cX10_release 40 = .ok (.invokevirtual 158, 3) := by decide +kernel
theorem dX10_release_43 : decode cX10_release 43 = .ok (.aload_n 0, 1) := by decide +kernel
theorem dX10_release_44 : decode cX10_release 44 = .ok (.getfield 31, 3) := by decide +kernel
theorem dX10_release_47 : decode cX10_release 47 = .ok (.getfield 139, 3) := by decide +kernel
theorem dX10_release_50 : decode cX10_release 50 = .ok (.getfield 161, 3) := by decide +kernel
theorem dX10_release_53 : decode cX10_release 53 = .ok (.iload_n 1, 1) := by decide +kernel
theorem dX10_release_54 : decode cX10_release 54 = .ok (.iconst 0, 1) := by decide +kernel
theorem dX10_release_55 : decode cX10_release 55 = .ok (.bastore, 1) := by decide +kernel
theorem dX10_release_56 : decode cX10_release 56 = .ok (.aload_n 0, 1) := by decide +kernel
theorem dX10_release_57 : decode cX10_release 57 = .ok (.getfield 31, 3) := by decide +kernel
theorem dX10_release_60 : decode cX10_release 60 = .ok (.invokevirtual 102, 3) := by decide +kernel
theorem dX10_release_63 : decode cX10_release 63 = .ok (.iconst 1, 1) := by decide +kernel
theorem dX10_release_64 : decode cX10_release 64 = .ok (.ireturn, 1) := by decide +kernel
theorem dX10_watermark_0 : decode cX10_watermark 0 = .ok (.aload_n 0, 1) := by decide +kernel
theorem dX10_watermark_1 : decode cX10_watermark 1 = .ok (.iload_n 1, 1) := by decide +kernel
theorem dX10_watermark_2 : decode cX10_watermark 2 = .ok (.invokevirtual 165, 3) := by decide +kernel
theorem dX10_watermark_5 : decode cX10_watermark 5 = .ok (.getfield 148, 3) := by decide +kernel
theorem dX10_watermark_8 : decode cX10_watermark 8 = .ok (.lreturn, 1) := by decide +kernel
theorem dX10_isIdle_0 : decode cX10_isIdle 0 = .ok (.aload_n 0, 1) := by decide +kernel
theorem dX10_isIdle_1 : decode cX10_isIdle 1 = .ok (.iload_n 1, 1) := by decide +kernel
theorem dX10_isIdle_2 : decode cX10_isIdle 2 = .ok (.invokevirtual 165, 3) := by decide +kernel
theorem dX10_isIdle_5 : decode cX10_isIdle 5 = .ok (.getfield 168, 3) := by decide +kernel
theorem dX10_isIdle_8 : decode cX10_isIdle 8 = .ok (.ireturn, 1) := by decide +kernel
theorem dX10_promise_0 : decode cX10_promise 0 = .ok (.aload_n 0, 1) := by decide +kernel
theorem dX10_promise_1 : decode cX10_promise 1 = .ok (.getfield 31, 3) := by decide +kernel
theorem dX10_promise_4 : decode cX10_promise 4 = .ok (.ifnonnull 13, 3) := by decide +kernel
theorem dX10_promise_7 : decode cX10_promise 7 = .ok (.new 172, 3) := by decide +kernel
theorem dX10_promise_10 : decode cX10_promise 10 = .ok (.dup, 1) := by decide +kernel
theorem dX10_promise_11 : decode cX10_promise 11 = .ok (.ldc 174, 2) := by decide +kernel
theorem dX10_promise_13 : decode cX10_promise 13 = .ok (.invokespecial 176, 3) := by decide +kernel
theorem dX10_promise_16 : decode cX10_promise 16 = .ok (.athrow, 1) := by decide +kernel
theorem dX10_promise_17 : decode cX10_promise 17 = .ok (.aload_n 0, 1) := by decide +kernel
theorem dX10_promise_18 : decode cX10_promise 18 = .ok (.iload_n 1, 1) := by decide +kernel
theorem dX10_promise_19 : decode cX10_promise 19 = .ok (.iload_n 2, 1) := by decide +kernel
theorem dX10_promise_20 : decode cX10_promise 20 = .ok (.invokevirtual 76, 3) := by decide +kernel
theorem dX10_promise_23 : decode cX10_promise 23 = .ok (.astore_n 3, 1) := by decide +kernel
theorem dX10_promise_24 : decode cX10_promise 24 = .ok (.aload_n 3, 1) := by decide +kernel
theorem dX10_promise_25 : decode cX10_promise 25 = .ok (.ifnonnull 13, 3) := by decide +kernel
theorem dX10_promise_28 : decode cX10_promise 28 = .ok (.new 179, 3) := by decide +kernel
theorem dX10_promise_31 : decode cX10_promise 31 = .ok (.dup, 1) := by decide +kernel
theorem dX10_promise_32 : decode cX10_promise 32 = .ok (.ldc 181, 2) := by decide +kernel
theorem dX10_promise_34 : decode cX10_promise 34 = .ok (.invokespecial 183, 3) := by decide +kernel
theorem dX10_promise_37 : decode cX10_promise 37 = .ok (.athrow, 1) := by decide +kernel
theorem dX10_promise_38 : decode cX10_promise 38 = .ok (.aload_n 3, 1) := by decide +kernel
theorem dX10_promise_39 : decode cX10_promise 39 = .ok (.getfield 88, 3) := by decide +kernel
theorem dX10_promise_42 : decode cX10_promise 42 = .ok (.getfield 184, 3) := by decide +kernel
theorem dX10_promise_45 : decode cX10_promise 45 = .ok (.iload_n 2, 1) := by decide +kernel
theorem dX10_promise_46 : decode cX10_promise 46 = .ok (.laload, 1) := by decide +kernel
theorem dX10_promise_47 : decode cX10_promise 47 = .ok (.lreturn, 1) := by decide +kernel
theorem dX10_part_0 : decode cX10_part 0 = .ok (.aload_n 0, 1) := by decide +kernel
theorem dX10_part_1 : decode cX10_part 1 = .ok (.iload_n 1, 1) := by decide +kernel
theorem dX10_part_2 : decode cX10_part 2 = .ok (.iload_n 2, 1) := by decide +kernel
theorem dX10_part_3 : decode cX10_part 3 = .ok (.invokevirtual 76, 3) := by decide +kernel
theorem dX10_part_6 : decode cX10_part 6 = .ok (.astore_n 3, 1) := by decide +kernel
theorem dX10_part_7 : decode cX10_part 7 = .ok (.aload_n 3, 1) := by decide +kernel
theorem dX10_part_8 : decode cX10_part 8 = .ok (.ifnonnull 5, 3) := by decide +kernel
theorem dX10_part_11 : decode cX10_part 11 = .ok (.iconst (-1), 1) := by decide +kernel
theorem dX10_part_12 : decode cX10_part 12 = .ok (.ireturn, 1) := by decide +kernel
theorem dX10_part_13 : decode cX10_part 13 = .ok (.aload_n 0, 1) := by decide +kernel
theorem dX10_part_14 : decode cX10_part 14 = .ok (.getfield 31, 3) := by decide +kernel
theorem dX10_part_17 : decode cX10_part 17 = .ok (.aload_n 3, 1) := by decide +kernel
theorem dX10_part_18 : decode cX10_part 18 = .ok (.getfield 88, 3) := by decide +kernel
theorem dX10_part_21 : decode cX10_part 21 = .ok (.iload_n 2, 1) := by decide +kernel
theorem dX10_part_22 : decode cX10_part 22 = .ok (.invokevirtual 188, 3) := by decide +kernel
theorem dX10_part_25 : decode cX10_part 25 = .ok (.ifCond .eq 7, 3) := by decide +kernel
theorem dX10_part_28 : decode cX10_part 28 = .ok (.iconst 3, 1) := by decide +kernel
theorem dX10_part_29 : decode cX10_part 29 = .ok (.goto 12, 3) := by decide +kernel
theorem dX10_part_32 : decode cX10_part 32 = .ok (.aload_n 3, 1) := by decide +kernel
theorem dX10_part_33 : decode cX10_part 33 = .ok (.getfield 88, 3) := by decide +kernel
theorem dX10_part_36 : decode cX10_part 36 = .ok (.getfield 118, 3) := by decide +kernel
theorem dX10_part_39 : decode cX10_part 39 = .ok (.iload_n 2, 1) := by decide +kernel
theorem dX10_part_40 : decode cX10_part 40 = .ok (.iaload, 1) := by decide +kernel
theorem dX10_part_41 : decode cX10_part 41 = .ok (.ireturn, 1) := by decide +kernel
theorem dX10_kept_0 : decode cX10_kept 0 = .ok (.aload_n 0, 1) := by decide +kernel
theorem dX10_kept_1 : decode cX10_kept 1 = .ok (.iload_n 1, 1) := by decide +kernel
theorem dX10_kept_2 : decode cX10_kept 2 = .ok (.invokevirtual 165, 3) := by decide +kernel
theorem dX10_kept_5 : decode cX10_kept 5 = .ok (.astore_n 3, 1) := by decide +kernel
theorem dX10_kept_6 : decode cX10_kept 6 = .ok (.iload_n 2, 1) := by decide +kernel
theorem dX10_kept_7 : decode cX10_kept 7 = .ok (.ifCond .eq 18, 3) := by decide +kernel
theorem dX10_kept_10 : decode cX10_kept 10 = .ok (.iload_n 2, 1) := by decide +kernel
theorem dX10_kept_11 : decode cX10_kept 11 = .ok (.iconst 1, 1) := by decide +kernel
theorem dX10_kept_12 : decode cX10_kept 12 = .ok (.if_icmp .eq 13, 3) := by decide +kernel
theorem dX10_kept_15 : decode cX10_kept 15 = .ok (.new 179, 3) := by decide +kernel
theorem dX10_kept_18 : decode cX10_kept 18 = .ok (.dup, 1) := by decide +kernel
theorem dX10_kept_19 : decode cX10_kept 19 = .ok (.ldc 192, 2) := by decide +kernel
theorem dX10_kept_21 : decode cX10_kept 21 = .ok (.invokespecial 183, 3) := by decide +kernel
theorem dX10_kept_24 : decode cX10_kept 24 = .ok (.athrow, 1) := by decide +kernel
theorem dX10_kept_25 : decode cX10_kept 25 = .ok (.aload_n 3, 1) := by decide +kernel
theorem dX10_kept_26 : decode cX10_kept 26 = .ok (.getfield 194, 3) := by decide +kernel
theorem dX10_kept_29 : decode cX10_kept 29 = .ok (.ifnull 13, 3) := by decide +kernel
theorem dX10_kept_32 : decode cX10_kept 32 = .ok (.aload_n 3, 1) := by decide +kernel
theorem dX10_kept_33 : decode cX10_kept 33 = .ok (.getfield 194, 3) := by decide +kernel
theorem dX10_kept_36 : decode cX10_kept 36 = .ok (.getfield 198, 3) := by decide +kernel
theorem dX10_kept_39 : decode cX10_kept 39 = .ok (.iload_n 2, 1) := by decide +kernel
theorem dX10_kept_40 : decode cX10_kept 40 = .ok (.iaload, 1) := by decide +kernel
theorem dX10_kept_41 : decode cX10_kept 41 = .ok (.ireturn, 1) := by decide +kernel
theorem dX10_kept_42 : decode cX10_kept 42 = .ok (.iload_n 2, 1) := by decide +kernel
theorem dX10_kept_43 : decode cX10_kept 43 = .ok (.iconst 1, 1) := by decide +kernel
theorem dX10_kept_44 : decode cX10_kept 44 = .ok (.if_icmp .ne 5, 3) := by decide +kernel
theorem dX10_kept_47 : decode cX10_kept 47 = .ok (.iconst 0, 1) := by decide +kernel
theorem dX10_kept_48 : decode cX10_kept 48 = .ok (.ireturn, 1) := by decide +kernel
theorem dX10_kept_49 : decode cX10_kept 49 = .ok (.aload_n 3, 1) := by decide +kernel
theorem dX10_kept_50 : decode cX10_kept 50 = .ok (.getfield 203, 3) := by decide +kernel
theorem dX10_kept_53 : decode cX10_kept 53 = .ok (.ifnull 11, 3) := by decide +kernel
theorem dX10_kept_56 : decode cX10_kept 56 = .ok (.aload_n 3, 1) := by decide +kernel
theorem dX10_kept_57 : decode cX10_kept 57 = .ok (.getfield 203, 3) := by decide +kernel
theorem dX10_kept_60 : decode cX10_kept 60 = .ok (.getfield 207, 3) := by decide +kernel
theorem dX10_kept_63 : decode cX10_kept 63 = .ok (.ireturn, 1) := by decide +kernel
theorem dX10_kept_64 : decode cX10_kept 64 = .ok (.aload_n 0, 1) := by decide +kernel
theorem dX10_kept_65 : decode cX10_kept 65 = .ok (.getfield 31, 3) := by decide +kernel
theorem dX10_kept_68 : decode cX10_kept 68 = .ok (.getfield 139, 3) := by decide +kernel
theorem dX10_kept_71 : decode cX10_kept 71 = .ok (.iload_n 1, 1) := by decide +kernel
theorem dX10_kept_72 : decode cX10_kept 72 = .ok (.invokevirtual 210, 3) := by decide +kernel
theorem dX10_kept_75 : decode cX10_kept 75 = .ok (.ireturn, 1) := by decide +kernel
theorem dX10_out_0 : decode cX10_out 0 = .ok (.aload_n 0, 1) := by decide +kernel
theorem dX10_out_1 : decode cX10_out 1 = .ok (.getfield 24, 3) := by decide +kernel
theorem dX10_out_4 : decode cX10_out 4 = .ok (.iload_n 1, 1) := by decide +kernel
theorem dX10_out_5 : decode cX10_out 5 = .ok (.iload_n 2, 1) := by decide +kernel
theorem dX10_out_6 : decode cX10_out 6 = .ok (.invokevirtual 213, 3) := by decide +kernel
theorem dX10_out_9 : decode cX10_out 9 = .ok (.ifCond .ne 13, 3) := by decide +kernel
theorem dX10_out_12 : decode cX10_out 12 = .ok (.new 179, 3) := by decide +kernel
theorem dX10_out_15 : decode cX10_out 15 = .ok (.dup, 1) := by decide +kernel
theorem dX10_out_16 : decode cX10_out 16 = .ok (.ldc 217, 2) := by decide +kernel
theorem dX10_out_18 : decode cX10_out 18 = .ok (.invokespecial 183, 3) := by decide +kernel
theorem dX10_out_21 : decode cX10_out 21 = .ok (.athrow, 1) := by decide +kernel
theorem dX10_out_22 : decode cX10_out 22 = .ok (.aload_n 0, 1) := by decide +kernel
theorem dX10_out_23 : decode cX10_out 23 = .ok (.getfield 24, 3) := by decide +kernel
theorem dX10_out_26 : decode cX10_out 26 = .ok (.iload_n 1, 1) := by decide +kernel
theorem dX10_out_27 : decode cX10_out 27 = .ok (.iload_n 2, 1) := by decide +kernel
theorem dX10_out_28 : decode cX10_out 28 = .ok (.invokevirtual 219, 3) := by decide +kernel
theorem dX10_out_31 : decode cX10_out 31 = .ok (.lreturn, 1) := by decide +kernel
theorem dX10_late_0 : decode cX10_late 0 = .ok (.aload_n 0, 1) := by decide +kernel
theorem dX10_late_1 : decode cX10_late 1 = .ok (.getfield 28, 3) := by decide +kernel
theorem dX10_late_4 : decode cX10_late 4 = .ok (.iload_n 1, 1) := by decide +kernel
theorem dX10_late_5 : decode cX10_late 5 = .ok (.iload_n 2, 1) := by decide +kernel
theorem dX10_late_6 : decode cX10_late 6 = .ok (.invokevirtual 213, 3) := by decide +kernel
theorem dX10_late_9 : decode cX10_late 9 = .ok (.ifCond .ne 13, 3) := by decide +kernel
theorem dX10_late_12 : decode cX10_late 12 = .ok (.new 179, 3) := by decide +kernel
theorem dX10_late_15 : decode cX10_late 15 = .ok (.dup, 1) := by decide +kernel
theorem dX10_late_16 : decode cX10_late 16 = .ok (.ldc 223, 2) := by decide +kernel
theorem dX10_late_18 : decode cX10_late 18 = .ok (.invokespecial 183, 3) := by decide +kernel
theorem dX10_late_21 : decode cX10_late 21 = .ok (.athrow, 1) := by decide +kernel
theorem dX10_late_22 : decode cX10_late 22 = .ok (.aload_n 0, 1) := by decide +kernel
theorem dX10_late_23 : decode cX10_late 23 = .ok (.getfield 28, 3) := by decide +kernel
theorem dX10_late_26 : decode cX10_late 26 = .ok (.iload_n 1, 1) := by decide +kernel
theorem dX10_late_27 : decode cX10_late 27 = .ok (.iload_n 2, 1) := by decide +kernel
theorem dX10_late_28 : decode cX10_late 28 = .ok (.invokevirtual 219, 3) := by decide +kernel
theorem dX10_late_31 : decode cX10_late 31 = .ok (.lreturn, 1) := by decide +kernel
theorem dX10_told_0 : decode cX10_told 0 = .ok (.iload_n 1, 1) := by decide +kernel
theorem dX10_told_1 : decode cX10_told 1 = .ok (.ifCond .lt 9, 3) := by decide +kernel
theorem dX10_told_4 : decode cX10_told 4 = .ok (.iload_n 1, 1) := by decide +kernel
theorem dX10_told_5 : decode cX10_told 5 = .ok (.bipush 8, 2) := by decide +kernel
theorem dX10_told_7 : decode cX10_told 7 = .ok (.if_icmp .le 5, 3) := by decide +kernel
theorem dX10_told_10 : decode cX10_told 10 = .ok (.iconst (-1), 1) := by decide +kernel
theorem dX10_told_11 : decode cX10_told 11 = .ok (.ireturn, 1) := by decide +kernel
theorem dX10_told_12 : decode cX10_told 12 = .ok (.iload_n 1, 1) := by decide +kernel
theorem dX10_told_13 : decode cX10_told 13 = .ok (.bipush 8, 2) := by decide +kernel
theorem dX10_told_15 : decode cX10_told 15 = .ok (.if_icmp .ne 11, 3) := by decide +kernel
theorem dX10_told_18 : decode cX10_told 18 = .ok (.aload_n 0, 1) := by decide +kernel
theorem dX10_told_19 : decode cX10_told 19 = .ok (.getfield 14, 3) := by decide +kernel
theorem dX10_told_22 : decode cX10_told 22 = .ok (.getfield 39, 3) := by decide +kernel
theorem dX10_told_25 : decode cX10_told 25 = .ok (.ireturn, 1) := by decide +kernel
theorem dX10_told_26 : decode cX10_told 26 = .ok (.aload_n 0, 1) := by decide +kernel
theorem dX10_told_27 : decode cX10_told 27 = .ok (.getfield 31, 3) := by decide +kernel
theorem dX10_told_30 : decode cX10_told 30 = .ok (.ifnonnull 5, 3) := by decide +kernel
theorem dX10_told_33 : decode cX10_told 33 = .ok (.iconst 0, 1) := by decide +kernel
theorem dX10_told_34 : decode cX10_told 34 = .ok (.ireturn, 1) := by decide +kernel
theorem dX10_told_35 : decode cX10_told 35 = .ok (.iload_n 1, 1) := by decide +kernel
theorem dX10_told_36 : decode cX10_told 36 = .ok (.tableswitch 103 0 6 #[44, 52, 60, 68, 76, 84, 95], 44) := by decide +kernel
theorem dX10_told_80 : decode cX10_told 80 = .ok (.aload_n 0, 1) := by decide +kernel
theorem dX10_told_81 : decode cX10_told 81 = .ok (.getfield 31, 3) := by decide +kernel
theorem dX10_told_84 : decode cX10_told 84 = .ok (.getfield 73, 3) := by decide +kernel
theorem dX10_told_87 : decode cX10_told 87 = .ok (.ireturn, 1) := by decide +kernel
theorem dX10_told_88 : decode cX10_told 88 = .ok (.aload_n 0, 1) := by decide +kernel
theorem dX10_told_89 : decode cX10_told 89 = .ok (.getfield 31, 3) := by decide +kernel
theorem dX10_told_92 : decode cX10_told 92 = .ok (.getfield 105, 3) := by decide +kernel
theorem dX10_told_95 : decode cX10_told 95 = .ok (.ireturn, 1) := by decide +kernel
theorem dX10_told_96 : decode cX10_told 96 = .ok (.aload_n 0, 1) := by decide +kernel
theorem dX10_told_97 : decode cX10_told 97 = .ok (.getfield 24, 3) := by decide +kernel
theorem dX10_told_100 : decode cX10_told 100 = .ok (.getfield 225, 3) := by decide +kernel
theorem dX10_told_103 : decode cX10_told 103 = .ok (.ireturn, 1) := by decide +kernel
theorem dX10_told_104 : decode cX10_told 104 = .ok (.aload_n 0, 1) := by decide +kernel
theorem dX10_told_105 : decode cX10_told 105 = .ok (.getfield 28, 3) := by decide +kernel
theorem dX10_told_108 : decode cX10_told 108 = .ok (.getfield 225, 3) := by decide +kernel
theorem dX10_told_111 : decode cX10_told 111 = .ok (.ireturn, 1) := by decide +kernel
theorem dX10_told_112 : decode cX10_told 112 = .ok (.aload_n 0, 1) := by decide +kernel
theorem dX10_told_113 : decode cX10_told 113 = .ok (.getfield 31, 3) := by decide +kernel
theorem dX10_told_116 : decode cX10_told 116 = .ok (.getfield 226, 3) := by decide +kernel
theorem dX10_told_119 : decode cX10_told 119 = .ok (.ireturn, 1) := by decide +kernel
theorem dX10_told_120 : decode cX10_told 120 = .ok (.aload_n 0, 1) := by decide +kernel
theorem dX10_told_121 : decode cX10_told 121 = .ok (.getfield 31, 3) := by decide +kernel
theorem dX10_told_124 : decode cX10_told 124 = .ok (.getfield 139, 3) := by decide +kernel
theorem dX10_told_127 : decode cX10_told 127 = .ok (.invokevirtual 229, 3) := by decide +kernel
theorem dX10_told_130 : decode cX10_told 130 = .ok (.ireturn, 1) := by decide +kernel
theorem dX10_told_131 : decode cX10_told 131 = .ok (.aload_n 0, 1) := by decide +kernel
theorem dX10_told_132 : decode cX10_told 132 = .ok (.getfield 31, 3) := by decide +kernel
theorem dX10_told_135 : decode cX10_told 135 = .ok (.invokevirtual 233, 3) := by decide +kernel
theorem dX10_told_138 : decode cX10_told 138 = .ok (.ireturn, 1) := by decide +kernel
theorem dX10_told_139 : decode cX10_told 139 = .ok (.aload_n 0, 1) := by decide +kernel
theorem dX10_told_140 : decode cX10_told 140 = .ok (.getfield 31, 3) := by decide +kernel
theorem dX10_told_143 : decode cX10_told 143 = .ok (.invokevirtual 236, 3) := by decide +kernel
theorem dX10_told_146 : decode cX10_told 146 = .ok (.ireturn, 1) := by decide +kernel
theorem dX10_print_0 : decode cX10_print 0 = .ok (.aload_n 0, 1) := by decide +kernel
theorem dX10_print_1 : decode cX10_print 1 = .ok (.getfield 31, 3) := by decide +kernel
theorem dX10_print_4 : decode cX10_print 4 = .ok (.ifnonnull 5, 3) := by decide +kernel
theorem dX10_print_7 : decode cX10_print 7 = .ok (.iconst (-1), 1) := by decide +kernel
theorem dX10_print_8 : decode cX10_print 8 = .ok (.ireturn, 1) := by decide +kernel
theorem dX10_print_9 : decode cX10_print 9 = .ok (.aload_n 0, 1) := by decide +kernel
theorem dX10_print_10 : decode cX10_print 10 = .ok (.getfield 18, 3) := by decide +kernel
theorem dX10_print_13 : decode cX10_print 13 = .ok (.invokevirtual 64, 3) := by decide +kernel
theorem dX10_print_16 : decode cX10_print 16 = .ok (.aload_n 0, 1) := by decide +kernel
theorem dX10_print_17 : decode cX10_print 17 = .ok (.getfield 31, 3) := by decide +kernel
theorem dX10_print_20 : decode cX10_print 20 = .ok (.aload_n 0, 1) := by decide +kernel
theorem dX10_print_21 : decode cX10_print 21 = .ok (.getfield 18, 3) := by decide +kernel
theorem dX10_print_24 : decode cX10_print 24 = .ok (.invokevirtual 239, 3) := by decide +kernel
theorem dX10_print_27 : decode cX10_print 27 = .ok (.aload_n 0, 1) := by decide +kernel
theorem dX10_print_28 : decode cX10_print 28 = .ok (.getfield 18, 3) := by decide +kernel
theorem dX10_print_31 : decode cX10_print 31 = .ok (.getfield 39, 3) := by decide +kernel
theorem dX10_print_34 : decode cX10_print 34 = .ok (.ireturn, 1) := by decide +kernel
theorem dX10_letter_0 : decode cX10_letter 0 = .ok (.aload_n 0, 1) := by decide +kernel
theorem dX10_letter_1 : decode cX10_letter 1 = .ok (.getfield 18, 3) := by decide +kernel
theorem dX10_letter_4 : decode cX10_letter 4 = .ok (.iload_n 1, 1) := by decide +kernel
theorem dX10_letter_5 : decode cX10_letter 5 = .ok (.invokevirtual 242, 3) := by decide +kernel
theorem dX10_letter_8 : decode cX10_letter 8 = .ok (.istore_n 2, 1) := by decide +kernel
theorem dX10_letter_9 : decode cX10_letter 9 = .ok (.iload_n 2, 1) := by decide +kernel
theorem dX10_letter_10 : decode cX10_letter 10 = .ok (.ifCond .ge 7, 3) := by decide +kernel
theorem dX10_letter_13 : decode cX10_letter 13 = .ok (.iconst (-1), 1) := by decide +kernel
theorem dX10_letter_14 : decode cX10_letter 14 = .ok (.goto 4, 3) := by decide +kernel
theorem dX10_letter_17 : decode cX10_letter 17 = .ok (.iload_n 2, 1) := by decide +kernel
theorem dX10_letter_18 : decode cX10_letter 18 = .ok (.ireturn, 1) := by decide +kernel
theorem dX10_streamOrNull_0 : decode cX10_streamOrNull 0 = .ok (.aload_n 0, 1) := by decide +kernel
theorem dX10_streamOrNull_1 : decode cX10_streamOrNull 1 = .ok (.getfield 31, 3) := by decide +kernel
theorem dX10_streamOrNull_4 : decode cX10_streamOrNull 4 = .ok (.ifnull 18, 3) := by decide +kernel
theorem dX10_streamOrNull_7 : decode cX10_streamOrNull 7 = .ok (.iload_n 1, 1) := by decide +kernel
theorem dX10_streamOrNull_8 : decode cX10_streamOrNull 8 = .ok (.ifCond .lt 14, 3) := by decide +kernel
theorem dX10_streamOrNull_11 : decode cX10_streamOrNull 11 = .ok (.iload_n 1, 1) := by decide +kernel
theorem dX10_streamOrNull_12 : decode cX10_streamOrNull 12 = .ok (.aload_n 0, 1) := by decide +kernel
theorem dX10_streamOrNull_13 : decode cX10_streamOrNull 13 = .ok (.getfield 31, 3) := by decide +kernel
theorem dX10_streamOrNull_16 : decode cX10_streamOrNull 16 = .ok (.getfield 73, 3) := by decide +kernel
theorem dX10_streamOrNull_19 : decode cX10_streamOrNull 19 = .ok (.if_icmp .lt 5, 3) := by decide +kernel
theorem dX10_streamOrNull_22 : decode cX10_streamOrNull 22 = .ok (.aconst_null, 1) := by decide +kernel
theorem dX10_streamOrNull_23 : decode cX10_streamOrNull 23 = .ok (.areturn, 1) := by decide +kernel
theorem dX10_streamOrNull_24 : decode cX10_streamOrNull 24 = .ok (.aload_n 0, 1) := by decide +kernel
theorem dX10_streamOrNull_25 : decode cX10_streamOrNull 25 = .ok (.getfield 31, 3) := by decide +kernel
theorem dX10_streamOrNull_28 : decode cX10_streamOrNull 28 = .ok (.getfield 245, 3) := by decide +kernel
theorem dX10_streamOrNull_31 : decode cX10_streamOrNull 31 = .ok (.iload_n 1, 1) := by decide +kernel
theorem dX10_streamOrNull_32 : decode cX10_streamOrNull 32 = .ok (.aaload, 1) := by decide +kernel
theorem dX10_streamOrNull_33 : decode cX10_streamOrNull 33 = .ok (.areturn, 1) := by decide +kernel
theorem dX10_streamOrThrow_0 : decode cX10_streamOrThrow 0 = .ok (.aload_n 0, 1) := by decide +kernel
theorem dX10_streamOrThrow_1 : decode cX10_streamOrThrow 1 = .ok (.getfield 31, 3) := by decide +kernel
theorem dX10_streamOrThrow_4 : decode cX10_streamOrThrow 4 = .ok (.ifnonnull 13, 3) := by decide +kernel
theorem dX10_streamOrThrow_7 : decode cX10_streamOrThrow 7 = .ok (.new 172, 3) := by decide +kernel
theorem dX10_streamOrThrow_10 : decode cX10_streamOrThrow 10 = .ok (.dup, 1) := by decide +kernel
theorem dX10_streamOrThrow_11 : decode cX10_streamOrThrow 11 = .ok (.ldc 174, 2) := by decide +kernel
theorem dX10_streamOrThrow_13 : decode cX10_streamOrThrow 13 = .ok (.invokespecial 176, 3) := by decide +kernel
theorem dX10_streamOrThrow_16 : decode cX10_streamOrThrow 16 = .ok (.athrow, 1) := by decide +kernel
theorem dX10_streamOrThrow_17 : decode cX10_streamOrThrow 17 = .ok (.aload_n 0, 1) := by decide +kernel
theorem dX10_streamOrThrow_18 : decode cX10_streamOrThrow 18 = .ok (.iload_n 1, 1) := by decide +kernel
theorem dX10_streamOrThrow_19 : decode cX10_streamOrThrow 19 = .ok (.invokevirtual 129, 3) := by decide +kernel
theorem dX10_streamOrThrow_22 : decode cX10_streamOrThrow 22 = .ok (.astore_n 2, 1) := by decide +kernel
theorem dX10_streamOrThrow_23 : decode cX10_streamOrThrow 23 = .ok (.aload_n 2, 1) := by decide +kernel
theorem dX10_streamOrThrow_24 : decode cX10_streamOrThrow 24 = .ok (.ifnonnull 13, 3) := by decide +kernel
theorem dX10_streamOrThrow_27 : decode cX10_streamOrThrow 27 = .ok (.new 179, 3) := by decide +kernel
theorem dX10_streamOrThrow_30 : decode cX10_streamOrThrow 30 = .ok (.dup, 1) := by decide +kernel
theorem dX10_streamOrThrow_31 : decode cX10_streamOrThrow 31 = .ok (.ldc 249, 2) := by decide +kernel
theorem dX10_streamOrThrow_33 : decode cX10_streamOrThrow 33 = .ok (.invokespecial 183, 3) := by decide +kernel
theorem dX10_streamOrThrow_36 : decode cX10_streamOrThrow 36 = .ok (.athrow, 1) := by decide +kernel
theorem dX10_streamOrThrow_37 : decode cX10_streamOrThrow 37 = .ok (.aload_n 2, 1) := by decide +kernel
theorem dX10_streamOrThrow_38 : decode cX10_streamOrThrow 38 = .ok (.areturn, 1) := by decide +kernel
theorem dX10_sourceWith_0 : decode cX10_sourceWith 0 = .ok (.aload_n 0, 1) := by decide +kernel
theorem dX10_sourceWith_1 : decode cX10_sourceWith 1 = .ok (.iload_n 1, 1) := by decide +kernel
theorem dX10_sourceWith_2 : decode cX10_sourceWith 2 = .ok (.invokevirtual 129, 3) := by decide +kernel
theorem dX10_sourceWith_5 : decode cX10_sourceWith 5 = .ok (.astore_n 3, 1) := by decide +kernel
theorem dX10_sourceWith_6 : decode cX10_sourceWith 6 = .ok (.aload_n 3, 1) := by decide +kernel
theorem dX10_sourceWith_7 : decode cX10_sourceWith 7 = .ok (.ifnull 25, 3) := by decide +kernel
theorem dX10_sourceWith_10 : decode cX10_sourceWith 10 = .ok (.aload_n 3, 1) := by decide +kernel
theorem dX10_sourceWith_11 : decode cX10_sourceWith 11 = .ok (.getfield 88, 3) := by decide +kernel
theorem dX10_sourceWith_14 : decode cX10_sourceWith 14 = .ok (.ifnull 18, 3) := by decide +kernel
theorem dX10_sourceWith_17 : decode cX10_sourceWith 17 = .ok (.iload_n 2, 1) := by decide +kernel
theorem dX10_sourceWith_18 : decode cX10_sourceWith 18 = .ok (.ifCond .lt 14, 3) := by decide +kernel
theorem dX10_sourceWith_21 : decode cX10_sourceWith 21 = .ok (.iload_n 2, 1) := by decide +kernel
theorem dX10_sourceWith_22 : decode cX10_sourceWith 22 = .ok (.aload_n 3, 1) := by decide +kernel
theorem dX10_sourceWith_23 : decode cX10_sourceWith 23 = .ok (.getfield 88, 3) := by decide +kernel
theorem dX10_sourceWith_26 : decode cX10_sourceWith 26 = .ok (.getfield 251, 3) := by decide +kernel
theorem dX10_sourceWith_29 : decode cX10_sourceWith 29 = .ok (.if_icmp .lt 5, 3) := by decide +kernel
theorem dX10_sourceWith_32 : decode cX10_sourceWith 32 = .ok (.aconst_null, 1) := by decide +kernel
theorem dX10_sourceWith_33 : decode cX10_sourceWith 33 = .ok (.areturn, 1) := by decide +kernel
theorem dX10_sourceWith_34 : decode cX10_sourceWith 34 = .ok (.aload_n 3, 1) := by decide +kernel
theorem dX10_sourceWith_35 : decode cX10_sourceWith 35 = .ok (.areturn, 1) := by decide +kernel
theorem dX10_isTime_0 : decode cX10_isTime 0 = .ok (.lload_n 0, 1) := by decide +kernel
theorem dX10_isTime_1 : decode cX10_isTime 1 = .ok (.ldc2_w 254, 3) := by decide +kernel
theorem dX10_isTime_4 : decode cX10_isTime 4 = .ok (.lcmp, 1) := by decide +kernel
theorem dX10_isTime_5 : decode cX10_isTime 5 = .ok (.ifCond .lt 15, 3) := by decide +kernel
theorem dX10_isTime_8 : decode cX10_isTime 8 = .ok (.lload_n 0, 1) := by decide +kernel
theorem dX10_isTime_9 : decode cX10_isTime 9 = .ok (.ldc2_w 256, 3) := by decide +kernel
theorem dX10_isTime_12 : decode cX10_isTime 12 = .ok (.lcmp, 1) := by decide +kernel
theorem dX10_isTime_13 : decode cX10_isTime 13 = .ok (.ifCond .gt 7, 3) := by decide +kernel
theorem dX10_isTime_16 : decode cX10_isTime 16 = .ok (.iconst 1, 1) := by decide +kernel
theorem dX10_isTime_17 : decode cX10_isTime 17 = .ok (.goto 4, 3) := by decide +kernel
theorem dX10_isTime_20 : decode cX10_isTime 20 = .ok (.iconst 0, 1) := by decide +kernel
theorem dX10_isTime_21 : decode cX10_isTime 21 = .ok (.ireturn, 1) := by decide +kernel
theorem dX10_isKey_0 : decode cX10_isKey 0 = .ok (.iload_n 0, 1) := by decide +kernel
theorem dX10_isKey_1 : decode cX10_isKey 1 = .ok (.ifCond .lt 13, 3) := by decide +kernel
theorem dX10_isKey_4 : decode cX10_isKey 4 = .ok (.iload_n 0, 1) := by decide +kernel
theorem dX10_isKey_5 : decode cX10_isKey 5 = .ok (.bipush 9, 2) := by decide +kernel
theorem dX10_isKey_7 : decode cX10_isKey 7 = .ok (.if_icmp .gt 7, 3) := by decide +kernel
theorem dX10_isKey_10 : decode cX10_isKey 10 = .ok (.iconst 1, 1) := by decide +kernel
theorem dX10_isKey_11 : decode cX10_isKey 11 = .ok (.goto 4, 3) := by decide +kernel
theorem dX10_isKey_14 : decode cX10_isKey 14 = .ok (.iconst 0, 1) := by decide +kernel
theorem dX10_isKey_15 : decode cX10_isKey 15 = .ok (.ireturn, 1) := by decide +kernel
theorem dX10_together_0 : decode cX10_together 0 = .ok (.lload_n 0, 1) := by decide +kernel
theorem dX10_together_1 : decode cX10_together 1 = .ok (.ldc2_w 258, 3) := by decide +kernel
theorem dX10_together_4 : decode cX10_together 4 = .ok (.lcmp, 1) := by decide +kernel
theorem dX10_together_5 : decode cX10_together 5 = .ok (.ifCond .eq 11, 3) := by decide +kernel
theorem dX10_together_8 : decode cX10_together 8 = .ok (.lload_n 0, 1) := by decide +kernel
theorem dX10_together_9 : decode cX10_together 9 = .ok (.ldc2_w 260, 3) := by decide +kernel
theorem dX10_together_12 : decode cX10_together 12 = .ok (.lcmp, 1) := by decide +kernel
theorem dX10_together_13 : decode cX10_together 13 = .ok (.ifCond .ne 5, 3) := by decide +kernel
theorem dX10_together_16 : decode cX10_together 16 = .ok (.lload_n 0, 1) := by decide +kernel
theorem dX10_together_17 : decode cX10_together 17 = .ok (.lreturn, 1) := by decide +kernel
theorem dX10_together_18 : decode cX10_together 18 = .ok (.ldc2_w 262, 3) := by decide +kernel
theorem dX10_together_21 : decode cX10_together 21 = .ok (.ldc2_w 264, 3) := by decide +kernel
theorem dX10_together_24 : decode cX10_together 24 = .ok (.lload_n 0, 1) := by decide +kernel
theorem dX10_together_25 : decode cX10_together 25 = .ok (.lload_n 2, 1) := by decide +kernel
theorem dX10_together_26 : decode cX10_together 26 = .ok (.ladd, 1) := by decide +kernel
theorem dX10_together_27 : decode cX10_together 27 = .ok (.invokestatic 266, 3) := by decide +kernel
theorem dX10_together_30 : decode cX10_together 30 = .ok (.invokestatic 272, 3) := by decide +kernel
theorem dX10_together_33 : decode cX10_together 33 = .ok (.lreturn, 1) := by decide +kernel
theorem dX11_init_0 : decode cX11_init 0 = .ok (.aload_n 0, 1) := by decide +kernel
theorem dX11_init_1 : decode cX11_init 1 = .ok (.invokespecial 5, 3) := by decide +kernel
theorem dX11_init_4 : decode cX11_init 4 = .ok (.aload_n 0, 1) := by decide +kernel
theorem dX11_init_5 : decode cX11_init 5 = .ok (.sipush 600, 3) := by decide +kernel
theorem dX11_init_8 : decode cX11_init 8 = .ok (.newarray .byte, 2) := by decide +kernel
theorem dX11_init_10 : decode cX11_init 10 = .ok (.putfield 11, 3) := by decide +kernel
theorem dX11_init_13 : decode cX11_init 13 = .ok (.aload_n 0, 1) := by decide +kernel
theorem dX11_init_14 : decode cX11_init 14 = .ok (.bipush 24, 2) := by decide +kernel
theorem dX11_init_16 : decode cX11_init 16 = .ok (.newarray .int, 2) := by decide +kernel
theorem dX11_init_18 : decode cX11_init 18 = .ok (.putfield 15, 3) := by decide +kernel
theorem dX11_init_21 : decode cX11_init 21 = .ok (.aload_n 0, 1) := by decide +kernel
theorem dX11_init_22 : decode cX11_init 22 = .ok (.bipush 24, 2) := by decide +kernel
theorem dX11_init_24 : decode cX11_init 24 = .ok (.newarray .long, 2) := by decide +kernel
theorem dX11_init_26 : decode cX11_init 26 = .ok (.putfield 19, 3) := by decide +kernel
theorem dX11_init_29 : decode cX11_init 29 = .ok (.aload_n 0, 1) := by decide +kernel
theorem dX11_init_30 : decode cX11_init 30 = .ok (.bipush 24, 2) := by decide +kernel
theorem dX11_init_32 : decode cX11_init 32 = .ok (.newarray .int, 2) := by decide +kernel
theorem dX11_init_34 : decode cX11_init 34 = .ok (.putfield 23, 3) := by decide +kernel
theorem dX11_init_37 : decode cX11_init 37 = .ok (.aload_n 0, 1) := by decide +kernel
theorem dX11_init_38 : decode cX11_init 38 = .ok (.bipush 24, 2) := by decide +kernel
theorem dX11_init_40 : decode cX11_init 40 = .ok (.newarray .int, 2) := by decide +kernel
theorem dX11_init_42 : decode cX11_init 42 = .ok (.putfield 26, 3) := by decide +kernel
theorem dX11_init_45 : decode cX11_init 45 = .ok (.aload_n 0, 1) := by decide +kernel
theorem dX11_init_46 : decode cX11_init 46 = .ok (.bipush 24, 2) := by decide +kernel
theorem dX11_init_48 : decode cX11_init 48 = .ok (.newarray .boolean, 2) := by decide +kernel
theorem dX11_init_50 : decode cX11_init 50 = .ok (.putfield 29, 3) := by decide +kernel
theorem dX11_init_53 : decode cX11_init 53 = .ok (.aload_n 0, 1) := by decide +kernel
theorem dX11_init_54 : decode cX11_init 54 = .ok (.bipush 24, 2) := by decide +kernel
theorem dX11_init_56 : decode cX11_init 56 = .ok (.newarray .long, 2) := by decide +kernel
theorem dX11_init_58 : decode cX11_init 58 = .ok (.putfield 33, 3) := by decide +kernel
theorem dX11_init_61 : decode cX11_init 61 = .ok (.aload_n 0, 1) := by decide +kernel
theorem dX11_init_62 : decode cX11_init 62 = .ok (.bipush 24, 2) := by decide +kernel
theorem dX11_init_64 : decode cX11_init 64 = .ok (.newarray .long, 2) := by decide +kernel
theorem dX11_init_66 : decode cX11_init 66 = .ok (.putfield 36, 3) := by decide +kernel
theorem dX11_init_69 : decode cX11_init 69 = .ok (.aload_n 0, 1) := by decide +kernel
theorem dX11_init_70 : decode cX11_init 70 = .ok (.bipush 24, 2) := by decide +kernel
theorem dX11_init_72 : decode cX11_init 72 = .ok (.newarray .int, 2) := by decide +kernel
theorem dX11_init_74 : decode cX11_init 74 = .ok (.putfield 39, 3) := by decide +kernel
theorem dX11_init_77 : decode cX11_init 77 = .ok (.aload_n 0, 1) := by decide +kernel
theorem dX11_init_78 : decode cX11_init 78 = .ok (.bipush 24, 2) := by decide +kernel
theorem dX11_init_80 : decode cX11_init 80 = .ok (.newarray .int, 2) := by decide +kernel
theorem dX11_init_82 : decode cX11_init 82 = .ok (.putfield 42, 3) := by decide +kernel
theorem dX11_init_85 : decode cX11_init 85 = .ok (.aload_n 0, 1) := by decide +kernel
theorem dX11_init_86 : decode cX11_init 86 = .ok (.bipush 24, 2) := by decide +kernel
theorem dX11_init_88 : decode cX11_init 88 = .ok (.newarray .int, 2) := by decide +kernel
theorem dX11_init_90 : decode cX11_init 90 = .ok (.putfield 45, 3) := by decide +kernel
theorem dX11_init_93 : decode cX11_init 93 = .ok (.aload_n 0, 1) := by decide +kernel
theorem dX11_init_94 : decode cX11_init 94 = .ok (.bipush 96, 2) := by decide +kernel
theorem dX11_init_96 : decode cX11_init 96 = .ok (.newarray .int, 2) := by decide +kernel
theorem dX11_init_98 : decode cX11_init 98 = .ok (.putfield 48, 3) := by decide +kernel
theorem dX11_init_101 : decode cX11_init 101 = .ok (.aload_n 0, 1) := by decide +kernel
theorem dX11_init_102 : decode cX11_init 102 = .ok (.bipush 24, 2) := by decide +kernel
theorem dX11_init_104 : decode cX11_init 104 = .ok (.newarray .int, 2) := by decide +kernel
theorem dX11_init_106 : decode cX11_init 106 = .ok (.putfield 51, 3) := by decide +kernel
theorem dX11_init_109 : decode cX11_init 109 = .ok (.aload_n 0, 1) := by decide +kernel
theorem dX11_init_110 : decode cX11_init 110 = .ok (.bipush 8, 2) := by decide +kernel
theorem dX11_init_112 : decode cX11_init 112 = .ok (.newarray .boolean, 2) := by decide +kernel
theorem dX11_init_114 : decode cX11_init 114 = .ok (.putfield 54, 3) := by decide +kernel
theorem dX11_init_117 : decode cX11_init 117 = .ok (.aload_n 0, 1) := by decide +kernel
theorem dX11_init_118 : decode cX11_init 118 = .ok (.bipush 8, 2) := by decide +kernel
theorem dX11_init_120 : decode cX11_init 120 = .ok (.newarray .long, 2) := by decide +kernel
theorem dX11_init_122 : decode cX11_init 122 = .ok (.putfield 57, 3) := by decide +kernel
theorem dX11_init_125 : decode cX11_init 125 = .ok (.aload_n 0, 1) := by decide +kernel
theorem dX11_init_126 : decode cX11_init 126 = .ok (.iconst 2, 1) := by decide +kernel
theorem dX11_init_127 : decode cX11_init 127 = .ok (.newarray .int, 2) := by decide +kernel
theorem dX11_init_129 : decode cX11_init 129 = .ok (.putfield 60, 3) := by decide +kernel
theorem dX11_init_132 : decode cX11_init 132 = .ok (.aload_n 0, 1) := by decide +kernel
theorem dX11_init_133 : decode cX11_init 133 = .ok (.bipush 12, 2) := by decide +kernel
theorem dX11_init_135 : decode cX11_init 135 = .ok (.newarray .long, 2) := by decide +kernel
theorem dX11_init_137 : decode cX11_init 137 = .ok (.putfield 63, 3) := by decide +kernel
theorem dX11_init_140 : decode cX11_init 140 = .ok (.aload_n 0, 1) := by decide +kernel
theorem dX11_init_141 : decode cX11_init 141 = .ok (.bipush 12, 2) := by decide +kernel
theorem dX11_init_143 : decode cX11_init 143 = .ok (.newarray .boolean, 2) := by decide +kernel
theorem dX11_init_145 : decode cX11_init 145 = .ok (.putfield 66, 3) := by decide +kernel
theorem dX11_init_148 : decode cX11_init 148 = .ok (.aload_n 0, 1) := by decide +kernel
theorem dX11_init_149 : decode cX11_init 149 = .ok (.bipush 48, 2) := by decide +kernel
theorem dX11_init_151 : decode cX11_init 151 = .ok (.newarray .int, 2) := by decide +kernel
theorem dX11_init_153 : decode cX11_init 153 = .ok (.putfield 69, 3) := by decide +kernel
theorem dX11_init_156 : decode cX11_init 156 = .ok (.aload_n 0, 1) := by decide +kernel
theorem dX11_init_157 : decode cX11_init 157 = .ok (.bipush 48, 2) := by decide +kernel
theorem dX11_init_159 : decode cX11_init 159 = .ok (.newarray .long, 2) := by decide +kernel
theorem dX11_init_161 : decode cX11_init 161 = .ok (.putfield 72, 3) := by decide +kernel
theorem dX11_init_164 : decode cX11_init 164 = .ok (.aload_n 0, 1) := by decide +kernel
theorem dX11_init_165 : decode cX11_init 165 = .ok (.bipush 48, 2) := by decide +kernel
theorem dX11_init_167 : decode cX11_init 167 = .ok (.newarray .int, 2) := by decide +kernel
theorem dX11_init_169 : decode cX11_init 169 = .ok (.putfield 75, 3) := by decide +kernel
theorem dX11_init_172 : decode cX11_init 172 = .ok (.aload_n 0, 1) := by decide +kernel
theorem dX11_init_173 : decode cX11_init 173 = .ok (.sipush 1200, 3) := by decide +kernel
theorem dX11_init_176 : decode cX11_init 176 = .ok (.newarray .long, 2) := by decide +kernel
theorem dX11_init_178 : decode cX11_init 178 = .ok (.putfield 78, 3) := by decide +kernel
theorem dX11_init_181 : decode cX11_init 181 = .ok (.aload_n 0, 1) := by decide +kernel
theorem dX11_init_182 : decode cX11_init 182 = .ok (.sipush 800, 3) := by decide +kernel
theorem dX11_init_185 : decode cX11_init 185 = .ok (.newarray .long, 2) := by decide +kernel
theorem dX11_init_187 : decode cX11_init 187 = .ok (.putfield 81, 3) := by decide +kernel
theorem dX11_init_190 : decode cX11_init 190 = .ok (.aload_n 0, 1) := by decide +kernel
theorem dX11_init_191 : decode cX11_init 191 = .ok (.bipush 12, 2) := by decide +kernel
theorem dX11_init_193 : decode cX11_init 193 = .ok (.newarray .int, 2) := by decide +kernel
theorem dX11_init_195 : decode cX11_init 195 = .ok (.putfield 84, 3) := by decide +kernel
theorem dX11_init_198 : decode cX11_init 198 = .ok (.aload_n 0, 1) := by decide +kernel
theorem dX11_init_199 : decode cX11_init 199 = .ok (.sipush 288, 3) := by decide +kernel
theorem dX11_init_202 : decode cX11_init 202 = .ok (.newarray .long, 2) := by decide +kernel
theorem dX11_init_204 : decode cX11_init 204 = .ok (.putfield 87, 3) := by decide +kernel
theorem dX11_init_207 : decode cX11_init 207 = .ok (.aload_n 0, 1) := by decide +kernel
theorem dX11_init_208 : decode cX11_init 208 = .ok (.sipush 288, 3) := by decide +kernel
theorem dX11_init_211 : decode cX11_init 211 = .ok (.newarray .int, 2) := by decide +kernel
theorem dX11_init_213 : decode cX11_init 213 = .ok (.putfield 90, 3) := by decide +kernel
theorem dX11_init_216 : decode cX11_init 216 = .ok (.aload_n 0, 1) := by decide +kernel
theorem dX11_init_217 : decode cX11_init 217 = .ok (.sipush 288, 3) := by decide +kernel
theorem dX11_init_220 : decode cX11_init 220 = .ok (.newarray .int, 2) := by decide +kernel
theorem dX11_init_222 : decode cX11_init 222 = .ok (.putfield 93, 3) := by decide +kernel
theorem dX11_init_225 : decode cX11_init 225 = .ok (.aload_n 0, 1) := by decide +kernel
theorem dX11_init_226 : decode cX11_init 226 = .ok (.bipush 24, 2) := by decide +kernel
theorem dX11_init_228 : decode cX11_init 228 = .ok (.newarray .int, 2) := by decide +kernel
theorem dX11_init_230 : decode cX11_init 230 = .ok (.putfield 96, 3) := by decide +kernel
theorem dX11_init_233 : decode cX11_init 233 = .ok (.aload_n 0, 1) := by decide +kernel
theorem dX11_init_234 : decode cX11_init 234 = .ok (.sipush 144, 3) := by decide +kernel
theorem dX11_init_237 : decode cX11_init 237 = .ok (.newarray .long, 2) := by decide +kernel
theorem dX11_init_239 : decode cX11_init 239 = .ok (.putfield 99, 3) := by decide +kernel
theorem dX11_init_242 : decode cX11_init 242 = .ok (.aload_n 0, 1) := by decide +kernel
theorem dX11_init_243 : decode cX11_init 243 = .ok (.sipush 144, 3) := by decide +kernel
theorem dX11_init_246 : decode cX11_init 246 = .ok (.newarray .int, 2) := by decide +kernel
theorem dX11_init_248 : decode cX11_init 248 = .ok (.putfield 102, 3) := by decide +kernel
theorem dX11_init_251 : decode cX11_init 251 = .ok (.aload_n 0, 1) := by decide +kernel
theorem dX11_init_252 : decode cX11_init 252 = .ok (.sipush 144, 3) := by decide +kernel
theorem dX11_init_255 : decode cX11_init 255 = .ok (.newarray .int, 2) := by decide +kernel
theorem dX11_init_257 : decode cX11_init 257 = .ok (.putfield 105, 3) := by decide +kernel
theorem dX11_init_260 : decode cX11_init 260 = .ok (.aload_n 0, 1) := by decide +kernel
theorem dX11_init_261 : decode cX11_init 261 = .ok (.bipush 60, 2) := by decide +kernel
theorem dX11_init_263 : decode cX11_init 263 = .ok (.newarray .int, 2) := by decide +kernel
theorem dX11_init_265 : decode cX11_init 265 = .ok (.putfield 108, 3) := by decide +kernel
theorem dX11_init_268 : decode cX11_init 268 = .ok (.aload_n 0, 1) := by decide +kernel
theorem dX11_init_269 : decode cX11_init 269 = .ok (.bipush 60, 2) := by decide +kernel
theorem dX11_init_271 : decode cX11_init 271 = .ok (.newarray .long, 2) := by decide +kernel
theorem dX11_init_273 : decode cX11_init 273 = .ok (.putfield 111, 3) := by decide +kernel
theorem dX11_init_276 : decode cX11_init 276 = .ok (.aload_n 0, 1) := by decide +kernel
theorem dX11_init_277 : decode cX11_init 277 = .ok (.bipush 60, 2) := by decide +kernel
theorem dX11_init_279 : decode cX11_init 279 = .ok (.newarray .boolean, 2) := by decide +kernel
theorem dX11_init_281 : decode cX11_init 281 = .ok (.putfield 114, 3) := by decide +kernel
theorem dX11_init_284 : decode cX11_init 284 = .ok (.aload_n 0, 1) := by decide +kernel
theorem dX11_init_285 : decode cX11_init 285 = .ok (.bipush 48, 2) := by decide +kernel
theorem dX11_init_287 : decode cX11_init 287 = .ok (.newarray .boolean, 2) := by decide +kernel
theorem dX11_init_289 : decode cX11_init 289 = .ok (.putfield 117, 3) := by decide +kernel
theorem dX11_init_292 : decode cX11_init 292 = .ok (.aload_n 0, 1) := by decide +kernel
theorem dX11_init_293 : decode cX11_init 293 = .ok (.sipush 1500, 3) := by decide +kernel
theorem dX11_init_296 : decode cX11_init 296 = .ok (.newarray .byte, 2) := by decide +kernel
theorem dX11_init_298 : decode cX11_init 298 = .ok (.putfield 120, 3) := by decide +kernel
theorem dX11_init_301 : decode cX11_init 301 = .ok (.return_, 1) := by decide +kernel
theorem dX11_thrown_0 : decode cX11_thrown 0 = .ok (.aload_n 0, 1) := by decide +kernel
theorem dX11_thrown_1 : decode cX11_thrown 1 = .ok (.getfield 123, 3) := by decide +kernel
theorem dX11_thrown_4 : decode cX11_thrown 4 = .ok (.ireturn, 1) := by decide +kernel
theorem dX11_feed_0 : decode cX11_feed 0 = .ok (.aload_n 0, 1) := by decide +kernel
theorem dX11_feed_1 : decode cX11_feed 1 = .ok (.iconst 0, 1) := by decide +kernel
theorem dX11_feed_2 : decode cX11_feed 2 = .ok (.putfield 123, 3) := by decide +kernel
theorem dX11_feed_5 : decode cX11_feed 5 = .ok (.iload_n 3, 1) := by decide +kernel
theorem dX11_feed_6 : decode cX11_feed 6 = .ok (.iconst 1, 1) := by decide +kernel
theorem dX11_feed_7 : decode cX11_feed 7 = .ok (.if_icmp .lt 21, 3) := by decide +kernel
theorem dX11_feed_10 : decode cX11_feed 10 = .ok (.iload_n 3, 1) := by decide +kernel
theorem dX11_feed_11 : decode cX11_feed 11 = .ok (.bipush 8, 2) := by decide +kernel
theorem dX11_feed_13 : decode cX11_feed 13 = .ok (.if_icmp .gt 15, 3) := by decide +kernel
theorem dX11_feed_16 : decode cX11_feed 16 = .ok (.aload_n 0, 1) := by decide +kernel
theorem dX11_feed_17 : decode cX11_feed 17 = .ok (.getfield 127, 3) := by decide +kernel
theorem dX11_feed_20 : decode cX11_feed 20 = .ok (.iload_n 3, 1) := by decide +kernel
theorem dX11_feed_21 : decode cX11_feed 21 = .ok (.iadd, 1) := by decide +kernel
theorem dX11_feed_22 : decode cX11_feed 22 = .ok (.sipush 600, 3) := by decide +kernel
theorem dX11_feed_25 : decode cX11_feed 25 = .ok (.if_icmp .le 5, 3) := by decide +kernel
theorem dX11_feed_28 : decode cX11_feed 28 = .ok (.iconst (-1), 1) := by decide +kernel
theorem dX11_feed_29 : decode cX11_feed 29 = .ok (.ireturn, 1) := by decide +kernel
theorem dX11_feed_30 : decode cX11_feed 30 = .ok (.iload_n 3, 1) := by decide +kernel
theorem dX11_feed_31 : decode cX11_feed 31 = .ok (.iconst 1, 1) := by decide +kernel
theorem dX11_feed_32 : decode cX11_feed 32 = .ok (.isub, 1) := by decide +kernel
theorem dX11_feed_33 : decode cX11_feed 33 = .ok (.istore 4, 2) := by decide +kernel
theorem dX11_feed_35 : decode cX11_feed 35 = .ok (.iload 4, 2) := by decide +kernel
theorem dX11_feed_37 : decode cX11_feed 37 = .ok (.ifCond .lt 37, 3) := by decide +kernel
theorem dX11_feed_40 : decode cX11_feed 40 = .ok (.aload_n 0, 1) := by decide +kernel
theorem dX11_feed_41 : decode cX11_feed 41 = .ok (.getfield 11, 3) := by decide +kernel
theorem dX11_feed_44 : decode cX11_feed 44 = .ok (.aload_n 0, 1) := by decide +kernel
theorem dX11_feed_45 : decode cX11_feed 45 = .ok (.getfield 127, 3) := by decide +kernel
theorem dX11_feed_48 : decode cX11_feed 48 = .ok (.lload_n 1, 1) := by decide +kernel
theorem dX11_feed_49 : decode cX11_feed 49 = .ok (.bipush 8, 2) := by decide +kernel
theorem dX11_feed_51 : decode cX11_feed 51 = .ok (.iload 4, 2) := by decide +kernel
theorem dX11_feed_53 : decode cX11_feed 53 = .ok (.imul, 1) := by decide +kernel
theorem dX11_feed_54 : decode cX11_feed 54 = .ok (.lshr, 1) := by decide +kernel
theorem dX11_feed_55 : decode cX11_feed 55 = .ok (.l2i, 1) := by decide +kernel
theorem dX11_feed_56 : decode cX11_feed 56 = .ok (.i2b, 1) := by decide +kernel
theorem dX11_feed_57 : decode cX11_feed 57 = .ok (.bastore, 1) := by decide +kernel
theorem dX11_feed_58 : decode cX11_feed 58 = .ok (.aload_n 0, 1) := by decide +kernel
theorem dX11_feed_59 : decode cX11_feed 59 = .ok (.dup, 1) := by decide +kernel
theorem dX11_feed_60 : decode cX11_feed 60 = .ok (.getfield 127, 3) := by decide +kernel
theorem dX11_feed_63 : decode cX11_feed 63 = .ok (.iconst 1, 1) := by decide +kernel
theorem dX11_feed_64 : decode cX11_feed 64 = .ok (.iadd, 1) := by decide +kernel
theorem dX11_feed_65 : decode cX11_feed 65 = .ok (.putfield 127, 3) := by decide +kernel
theorem dX11_feed_68 : decode cX11_feed 68 = .ok (.iinc 4 (-1), 3) := by decide +kernel
theorem dX11_feed_71 : decode cX11_feed 71 = .ok (.goto (-36), 3) := by decide +kernel
theorem dX11_feed_74 : decode cX11_feed 74 = .ok (.aload_n 0, 1) := by decide +kernel
theorem dX11_feed_75 : decode cX11_feed 75 = .ok (.getfield 127, 3) := by decide +kernel
theorem dX11_feed_78 : decode cX11_feed 78 = .ok (.ireturn, 1) := by decide +kernel
theorem dX11_byteAt_0 : decode cX11_byteAt 0 = .ok (.iload_n 1, 1) := by decide +kernel
theorem dX11_byteAt_1 : decode cX11_byteAt 1 = .ok (.aload_n 0, 1) := by decide +kernel
theorem dX11_byteAt_2 : decode cX11_byteAt 2 = .ok (.getfield 127, 3) := by decide +kernel
theorem dX11_byteAt_5 : decode cX11_byteAt 5 = .ok (.if_icmp .ge 12, 3) := by decide +kernel
theorem dX11_byteAt_8 : decode cX11_byteAt 8 = .ok (.aload_n 0, 1) := by decide +kernel
theorem dX11_byteAt_9 : decode cX11_byteAt 9 = .ok (.getfield 11, 3) := by decide +kernel
theorem dX11_byteAt_12 : decode cX11_byteAt 12 = .ok (.iload_n 1, 1) := by decide +kernel
theorem dX11_byteAt_13 : decode cX11_byteAt 13 = .ok (.baload, 1) := by decide +kernel
theorem dX11_byteAt_14 : decode cX11_byteAt 14 = .ok (.goto 4, 3) := by decide +kernel
theorem dX11_byteAt_17 : decode cX11_byteAt 17 = .ok (.iconst 0, 1) := by decide +kernel
theorem dX11_byteAt_18 : decode cX11_byteAt 18 = .ok (.ireturn, 1) := by decide +kernel
theorem dX11_isLetter_0 : decode cX11_isLetter 0 = .ok (.iload_n 0, 1) := by decide +kernel
theorem dX11_isLetter_1 : decode cX11_isLetter 1 = .ok (.bipush 97, 2) := by decide +kernel
theorem dX11_isLetter_3 : decode cX11_isLetter 3 = .ok (.if_icmp .lt 13, 3) := by decide +kernel
theorem dX11_isLetter_6 : decode cX11_isLetter 6 = .ok (.iload_n 0, 1) := by decide +kernel
theorem dX11_isLetter_7 : decode cX11_isLetter 7 = .ok (.bipush 122, 2) := by decide +kernel
theorem dX11_isLetter_9 : decode cX11_isLetter 9 = .ok (.if_icmp .gt 7, 3) := by decide +kernel
theorem dX11_isLetter_12 : decode cX11_isLetter 12 = .ok (.iconst 1, 1) := by decide +kernel
theorem dX11_isLetter_13 : decode cX11_isLetter 13 = .ok (.goto 4, 3) := by decide +kernel
theorem dX11_isLetter_16 : decode cX11_isLetter 16 = .ok (.iconst 0, 1) := by decide +kernel
theorem dX11_isLetter_17 : decode cX11_isLetter 17 = .ok (.ireturn, 1) := by decide +kernel
theorem dX11_isDigit_0 : decode cX11_isDigit 0 = .ok (.iload_n 0, 1) := by decide +kernel
theorem dX11_isDigit_1 : decode cX11_isDigit 1 = .ok (.bipush 48, 2) := by decide +kernel
theorem dX11_isDigit_3 : decode cX11_isDigit 3 = .ok (.if_icmp .lt 13, 3) := by decide +kernel
theorem dX11_isDigit_6 : decode cX11_isDigit 6 = .ok (.iload_n 0, 1) := by decide +kernel
theorem dX11_isDigit_7 : decode cX11_isDigit 7 = .ok (.bipush 57, 2) := by decide +kernel
theorem dX11_isDigit_9 : decode cX11_isDigit 9 = .ok (.if_icmp .gt 7, 3) := by decide +kernel
theorem dX11_isDigit_12 : decode cX11_isDigit 12 = .ok (.iconst 1, 1) := by decide +kernel
theorem dX11_isDigit_13 : decode cX11_isDigit 13 = .ok (.goto 4, 3) := by decide +kernel
theorem dX11_isDigit_16 : decode cX11_isDigit 16 = .ok (.iconst 0, 1) := by decide +kernel
theorem dX11_isDigit_17 : decode cX11_isDigit 17 = .ok (.ireturn, 1) := by decide +kernel
theorem dX11_next_0 : decode cX11_next 0 = .ok (.aload_n 0, 1) := by decide +kernel
theorem dX11_next_1 : decode cX11_next 1 = .ok (.aload_n 0, 1) := by decide +kernel
theorem dX11_next_2 : decode cX11_next 2 = .ok (.getfield 130, 3) := by decide +kernel
theorem dX11_next_5 : decode cX11_next 5 = .ok (.invokevirtual 133, 3) := by decide +kernel
theorem dX11_next_8 : decode cX11_next 8 = .ok (.istore_n 1, 1) := by decide +kernel
theorem dX11_next_9 : decode cX11_next 9 = .ok (.aload_n 0, 1) := by decide +kernel
theorem dX11_next_10 : decode cX11_next 10 = .ok (.getfield 130, 3) := by decide +kernel
theorem dX11_next_13 : decode cX11_next 13 = .ok (.aload_n 0, 1) := by decide +kernel
theorem dX11_next_14 : decode cX11_next 14 = .ok (.getfield 127, 3) := by decide +kernel
theorem dX11_next_17 : decode cX11_next 17 = .ok (.if_icmp .ge 49, 3) := by decide +kernel
theorem dX11_next_20 : decode cX11_next 20 = .ok (.iload_n 1, 1) := by decide +kernel
theorem dX11_next_21 : decode cX11_next 21 = .ok (.bipush 9, 2) := by decide +kernel
theorem dX11_next_23 : decode cX11_next 23 = .ok (.if_icmp .eq 21, 3) := by decide +kernel
theorem dX11_next_26 : decode cX11_next 26 = .ok (.iload_n 1, 1) := by decide +kernel
theorem dX11_next_27 : decode cX11_next 27 = .ok (.bipush 10, 2) := by decide +kernel
theorem dX11_next_29 : decode cX11_next 29 = .ok (.if_icmp .eq 15, 3) := by decide +kernel
theorem dX11_next_32 : decode cX11_next 32 = .ok (.iload_n 1, 1) := by decide +kernel
theorem dX11_next_33 : decode cX11_next 33 = .ok (.bipush 13, 2) := by decide +kernel
theorem dX11_next_35 : decode cX11_next 35 = .ok (.if_icmp .eq 9, 3) := by decide +kernel
theorem dX11_next_38 : decode cX11_next 38 = .ok (.iload_n 1, 1) := by decide +kernel
theorem dX11_next_39 : decode cX11_next 39 = .ok (.bipush 32, 2) := by decide +kernel
theorem dX11_next_41 : decode cX11_next 41 = .ok (.if_icmp .ne 25, 3) := by decide +kernel
theorem dX11_next_44 : decode cX11_next 44 = .ok (.aload_n 0, 1) := by decide +kernel
theorem dX11_next_45 : decode cX11_next 45 = .ok (.dup, 1) := by decide +kernel
theorem dX11_next_46 : decode cX11_next 46 = .ok (.getfield 130, 3) := by decide +kernel
theorem dX11_next_49 : decode cX11_next 49 = .ok (.iconst 1, 1) := by decide +kernel
theorem dX11_next_50 : decode cX11_next 50 = .ok (.iadd, 1) := by decide +kernel
theorem dX11_next_51 : decode cX11_next 51 = .ok (.putfield 130, 3) := by decide +kernel
theorem dX11_next_54 : decode cX11_next 54 = .ok (.aload_n 0, 1) := by decide +kernel
theorem dX11_next_55 : decode cX11_next 55 = .ok (.aload_n 0, 1) := by decide +kernel
theorem dX11_next_56 : decode cX11_next 56 = .ok (.getfield 130, 3) := by decide +kernel
theorem dX11_next_59 : decode cX11_next 59 = .ok (.invokevirtual 133, 3) := by decide +kernel
theorem dX11_next_62 : decode cX11_next 62 = .ok (.istore_n 1, 1) := by decide +kernel
theorem dX11_next_63 : decode cX11_next 63 = .ok (.goto (-54), 3) := by decide +kernel
theorem dX11_next_66 : decode cX11_next 66 = .ok (.aload_n 0, 1) := by decide +kernel
theorem dX11_next_67 : decode cX11_next 67 = .ok (.aload_n 0, 1) := by decide +kernel
theorem dX11_next_68 : decode cX11_next 68 = .ok (.getfield 130, 3) := by decide +kernel
theorem dX11_next_71 : decode cX11_next 71 = .ok (.putfield 137, 3) := by decide +kernel
theorem dX11_next_74 : decode cX11_next 74 = .ok (.aload_n 0, 1) := by decide +kernel
theorem dX11_next_75 : decode cX11_next 75 = .ok (.lconst 0, 1) := by decide +kernel
theorem dX11_next_76 : decode cX11_next 76 = .ok (.putfield 140, 3) := by decide +kernel
theorem dX11_next_79 : decode cX11_next 79 = .ok (.aload_n 0, 1) := by decide +kernel
theorem dX11_next_80 : decode cX11_next 80 = .ok (.iconst (-1), 1) := by decide +kernel
theorem dX11_next_81 : decode cX11_next 81 = .ok (.putfield 144, 3) := by decide +kernel
theorem dX11_next_84 : decode cX11_next 84 = .ok (.aload_n 0, 1) := by decide +kernel
theorem dX11_next_85 : decode cX11_next 85 = .ok (.getfield 130, 3) := by decide +kernel
theorem dX11_next_88 : decode cX11_next 88 = .ok (.aload_n 0, 1) := by decide +kernel
theorem dX11_next_89 : decode cX11_next 89 = .ok (.getfield 127, 3) := by decide +kernel
theorem dX11_next_92 : decode cX11_next 92 = .ok (.if_icmp .lt 9, 3) := by decide +kernel
theorem dX11_next_95 : decode cX11_next 95 = .ok (.aload_n 0, 1) := by decide +kernel
theorem dX11_next_96 : decode cX11_next 96 = .ok (.iconst 0, 1) := by decide +kernel
theorem dX11_next_97 : decode cX11_next 97 = .ok (.putfield 147, 3) := by decide +kernel
theorem dX11_next_100 : decode cX11_next 100 = .ok (.return_, 1) := by decide +kernel
theorem dX11_next_101 : decode cX11_next 101 = .ok (.iconst 0, 1) := by decide +kernel
theorem dX11_next_102 : decode cX11_next 102 = .ok (.istore_n 2, 1) := by decide +kernel
theorem dX11_next_103 : decode cX11_next 103 = .ok (.iload_n 1, 1) := by decide +kernel
theorem dX11_next_104 : decode cX11_next 104 = .ok (.invokestatic 150, 3) := by decide +kernel
theorem dX11_next_107 : decode cX11_next 107 = .ok (.ifCond .eq 94, 3) := by decide +kernel
theorem dX11_next_110 : decode cX11_next 110 = .ok (.aload_n 0, 1) := by decide +kernel
theorem dX11_next_111 : decode cX11_next 111 = .ok (.aload_n 0, 1) := by decide +kernel
theorem dX11_next_112 : decode cX11_next 112 = .ok (.getfield 130, 3) := by decide +kernel
theorem dX11_next_115 : decode cX11_next 115 = .ok (.invokevirtual 133, 3) := by decide +kernel
theorem dX11_next_118 : decode cX11_next 118 = .ok (.invokestatic 150, 3) := by decide +kernel
theorem dX11_next_121 : decode cX11_next 121 = .ok (.ifCond .eq 57, 3) := by decide +kernel
theorem dX11_next_124 : decode cX11_next 124 = .ok (.aload_n 0, 1) := by decide +kernel
theorem dX11_next_125 : decode cX11_next 125 = .ok (.iload_n 2, 1) := by decide +kernel
theorem dX11_next_126 : decode cX11_next 126 = .ok (.bipush 8, 2) := by decide +kernel
theorem dX11_next_128 : decode cX11_next 128 = .ok (.if_icmp .ge 27, 3) := by decide +kernel
theorem dX11_next_131 : decode cX11_next 131 = .ok (.aload_n 0, 1) := by decide +kernel
theorem dX11_next_132 : decode cX11_next 132 = .ok (.getfield 140, 3) := by decide +kernel
theorem dX11_next_135 : decode cX11_next 135 = .ok (.iconst 5, 1) := by decide +kernel
theorem dX11_next_136 : decode cX11_next 136 = .ok (.lshl, 1) := by decide +kernel
theorem dX11_next_137 : decode cX11_next 137 = .ok (.aload_n 0, 1) := by decide +kernel
theorem dX11_next_138 : decode cX11_next 138 = .ok (.aload_n 0, 1) := by decide +kernel
theorem dX11_next_139 : decode cX11_next 139 = .ok (.getfield 130, 3) := by decide +kernel
theorem dX11_next_142 : decode cX11_next 142 = .ok (.invokevirtual 133, 3) := by decide +kernel
theorem dX11_next_145 : decode cX11_next 145 = .ok (.bipush 97, 2) := by decide +kernel
theorem dX11_next_147 : decode cX11_next 147 = .ok (.isub, 1) := by decide +kernel
theorem dX11_next_148 : decode cX11_next 148 = .ok (.iconst 1, 1) := by decide +kernel
theorem dX11_next_149 : decode cX11_next 149 = .ok (.iadd, 1) := by decide +kernel
theorem dX11_next_150 : decode cX11_next 150 = .ok (.i2l, 1) := by decide +kernel
theorem dX11_next_151 : decode cX11_next 151 = .ok (.lor, 1) := by decide +kernel
theorem dX11_next_152 : decode cX11_next 152 = .ok (.goto 7, 3) := by decide +kernel
theorem dX11_next_155 : decode cX11_next 155 = .ok (.aload_n 0, 1) := by decide +kernel
theorem dX11_next_156 : decode cX11_next 156 = .ok (.getfield 140, 3) := by decide +kernel
theorem dX11_next_159 : decode cX11_next 159 = .ok (.putfield 140, 3) := by decide +kernel
theorem dX11_next_162 : decode cX11_next 162 = .ok (.aload_n 0, 1) := by decide +kernel
theorem dX11_next_163 : decode cX11_next 163 = .ok (.dup, 1) := by decide +kernel
theorem dX11_next_164 : decode cX11_next 164 = .ok (.getfield 130, 3) := by decide +kernel
theorem dX11_next_167 : decode cX11_next 167 = .ok (.iconst 1, 1) := by decide +kernel
theorem dX11_next_168 : decode cX11_next 168 = .ok (.iadd, 1) := by decide +kernel
theorem dX11_next_169 : decode cX11_next 169 = .ok (.putfield 130, 3) := by decide +kernel
theorem dX11_next_172 : decode cX11_next 172 = .ok (.iinc 2 1, 3) := by decide +kernel
theorem dX11_next_175 : decode cX11_next 175 = .ok (.goto (-65), 3) := by decide +kernel
theorem dX11_next_178 : decode cX11_next 178 = .ok (.aload_n 0, 1) := by decide +kernel
theorem dX11_next_179 : decode cX11_next 179 = .ok (.iload_n 2, 1) := by decide +kernel
theorem dX11_next_180 : decode cX11_next 180 = .ok (.bipush 8, 2) := by decide +kernel
theorem dX11_next_182 : decode cX11_next 182 = .ok (.if_icmp .le 7, 3) := by decide +kernel
theorem dX11_next_185 : decode cX11_next 185 = .ok (.iconst 4, 1) := by decide +kernel
theorem dX11_next_186 : decode cX11_next 186 = .ok (.goto 4, 3) := by decide +kernel
theorem dX11_next_189 : decode cX11_next 189 = .ok (.iconst 1, 1) := by decide +kernel
theorem dX11_next_190 : decode cX11_next 190 = .ok (.putfield 147, 3) := by decide +kernel
theorem dX11_next_193 : decode cX11_next 193 = .ok (.aload_n 0, 1) := by decide +kernel
theorem dX11_next_194 : decode cX11_next 194 = .ok (.iload_n 2, 1) := by decide +kernel
theorem dX11_next_195 : decode cX11_next 195 = .ok (.invokevirtual 154, 3) := by decide +kernel
theorem dX11_next_198 : decode cX11_next 198 = .ok (.goto 140, 3) := by decide +kernel
theorem dX11_next_201 : decode cX11_next 201 = .ok (.iload_n 1, 1) := by decide +kernel
theorem dX11_next_202 : decode cX11_next 202 = .ok (.invokestatic 158, 3) := by decide +kernel
theorem dX11_next_205 : decode cX11_next 205 = .ok (.ifCond .eq 90, 3) := by decide +kernel
theorem dX11_next_208 : decode cX11_next 208 = .ok (.aload_n 0, 1) := by decide +kernel
theorem dX11_next_209 : decode cX11_next 209 = .ok (.aload_n 0, 1) := by decide +kernel
theorem dX11_next_210 : decode cX11_next 210 = .ok (.getfield 130, 3) := by decide +kernel
theorem dX11_next_213 : decode cX11_next 213 = .ok (.invokevirtual 133, 3) := by decide +kernel
theorem dX11_next_216 : decode cX11_next 216 = .ok (.invokestatic 158, 3) := by decide +kernel
theorem dX11_next_219 : decode cX11_next 219 = .ok (.ifCond .eq 58, 3) := by decide +kernel
theorem dX11_next_222 : decode cX11_next 222 = .ok (.aload_n 0, 1) := by decide +kernel
theorem dX11_next_223 : decode cX11_next 223 = .ok (.iload_n 2, 1) := by decide +kernel
theorem dX11_next_224 : decode cX11_next 224 = .ok (.bipush 18, 2) := by decide +kernel
theorem dX11_next_226 : decode cX11_next 226 = .ok (.if_icmp .ge 28, 3) := by decide +kernel
theorem dX11_next_229 : decode cX11_next 229 = .ok (.ldc2_w 161, 3) := by decide +kernel
theorem dX11_next_232 : decode cX11_next 232 = .ok (.aload_n 0, 1) := by decide +kernel
theorem dX11_next_233 : decode cX11_next 233 = .ok (.getfield 140, 3) := by decide +kernel
theorem dX11_next_236 : decode cX11_next 236 = .ok (.lmul, 1) := by decide +kernel
theorem dX11_next_237 : decode cX11_next 237 = .ok (.aload_n 0, 1) := by decide +kernel
theorem dX11_next_238 : decode cX11_next 238 = .ok (.aload_n 0, 1) := by decide +kernel
theorem dX11_next_239 : decode cX11_next 239 = .ok (.getfield 130, 3) := by decide +kernel
theorem dX11_next_242 : decode cX11_next 242 = .ok (.invokevirtual 133, 3) := by decide +kernel
theorem dX11_next_245 : decode cX11_next 245 = .ok (.i2l, 1) := by decide +kernel
theorem dX11_next_246 : decode cX11_next 246 = .ok (.ladd, 1) := by decide +kernel
theorem dX11_next_247 : decode cX11_next 247 = .ok (.ldc2_w 163, 3) := by decide +kernel
theorem dX11_next_250 : decode cX11_next 250 = .ok (.lsub, 1) := by decide +kernel
theorem dX11_next_251 : decode cX11_next 251 = .ok (.goto 7, 3) := by decide +kernel
theorem dX11_next_254 : decode cX11_next 254 = .ok (.aload_n 0, 1) := by decide +kernel
theorem dX11_next_255 : decode cX11_next 255 = .ok (.getfield 140, 3) := by decide +kernel
theorem dX11_next_258 : decode cX11_next 258 = .ok (.putfield 140, 3) := by decide +kernel
theorem dX11_next_261 : decode cX11_next 261 = .ok (.aload_n 0, 1) := by decide +kernel
theorem dX11_next_262 : decode cX11_next 262 = .ok (.dup, 1) := by decide +kernel
theorem dX11_next_263 : decode cX11_next 263 = .ok (.getfield 130, 3) := by decide +kernel
theorem dX11_next_266 : decode cX11_next 266 = .ok (.iconst 1, 1) := by decide +kernel
theorem dX11_next_267 : decode cX11_next 267 = .ok (.iadd, 1) := by decide +kernel
theorem dX11_next_268 : decode cX11_next 268 = .ok (.putfield 130, 3) := by decide +kernel
theorem dX11_next_271 : decode cX11_next 271 = .ok (.iinc 2 1, 3) := by decide +kernel
theorem dX11_next_274 : decode cX11_next 274 = .ok (.goto (-66), 3) := by decide +kernel
theorem dX11_next_277 : decode cX11_next 277 = .ok (.aload_n 0, 1) := by decide +kernel
theorem dX11_next_278 : decode cX11_next 278 = .ok (.iload_n 2, 1) := by decide +kernel
theorem dX11_next_279 : decode cX11_next 279 = .ok (.bipush 18, 2) := by decide +kernel
theorem dX11_next_281 : decode cX11_next 281 = .ok (.if_icmp .le 7, 3) := by decide +kernel
theorem dX11_next_284 : decode cX11_next 284 = .ok (.iconst 4, 1) := by decide +kernel
theorem dX11_next_285 : decode cX11_next 285 = .ok (.goto 4, 3) := by decide +kernel
theorem dX11_next_288 : decode cX11_next 288 = .ok (.iconst 2, 1) := by decide +kernel
theorem dX11_next_289 : decode cX11_next 289 = .ok (.putfield 147, 3) := by decide +kernel
theorem dX11_next_292 : decode cX11_next 292 = .ok (.goto 46, 3) := by decide +kernel
theorem dX11_next_295 : decode cX11_next 295 = .ok (.aload_n 0, 1) := by decide +kernel
theorem dX11_next_296 : decode cX11_next 296 = .ok (.iload_n 1, 1) := by decide +kernel
theorem dX11_next_297 : decode cX11_next 297 = .ok (.bipush 61, 2) := by decide +kernel
theorem dX11_next_299 : decode cX11_next 299 = .ok (.if_icmp .eq 15, 3) := by decide +kernel
theorem dX11_next_302 : decode cX11_next 302 = .ok (.iload_n 1, 1) := by decide +kernel
theorem dX11_next_303 : decode cX11_next 303 = .ok (.bipush 59, 2) := by decide +kernel
theorem dX11_next_305 : decode cX11_next 305 = .ok (.if_icmp .eq 9, 3) := by decide +kernel
theorem dX11_next_308 : decode cX11_next 308 = .ok (.iload_n 1, 1) := by decide +kernel
theorem dX11_next_309 : decode cX11_next 309 = .ok (.bipush 45, 2) := by decide +kernel
theorem dX11_next_311 : decode cX11_next 311 = .ok (.if_icmp .ne 7, 3) := by decide +kernel
theorem dX11_next_314 : decode cX11_next 314 = .ok (.iconst 3, 1) := by decide +kernel
theorem dX11_next_315 : decode cX11_next 315 = .ok (.goto 4, 3) := by decide +kernel
theorem dX11_next_318 : decode cX11_next 318 = .ok (.iconst 4, 1) := by decide +kernel
theorem dX11_next_319 : decode cX11_next 319 = .ok (.putfield 147, 3) := by decide +kernel
theorem dX11_next_322 : decode cX11_next 322 = .ok (.aload_n 0, 1) := by decide +kernel
theorem dX11_next_323 : decode cX11_next 323 = .ok (.iload_n 1, 1) := by decide +kernel
theorem dX11_next_324 : decode cX11_next 324 = .ok (.i2l, 1) := by decide +kernel
theorem dX11_next_325 : decode cX11_next 325 = .ok (.putfield 140, 3) := by decide +kernel
theorem dX11_next_328 : decode cX11_next 328 = .ok (.aload_n 0, 1) := by decide +kernel
theorem dX11_next_329 : decode cX11_next 329 = .ok (.dup, 1) := by decide +kernel
theorem dX11_next_330 : decode cX11_next 330 = .ok (.getfield 130, 3) := by decide +kernel
theorem dX11_next_333 : decode cX11_next 333 = .ok (.iconst 1, 1) := by decide +kernel
