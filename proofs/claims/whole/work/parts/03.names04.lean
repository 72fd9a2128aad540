theorem dX11_row_40 : decode cX11_row 40 = .ok (.iload_n 1, 1) := by decide +kernel
theorem dX11_row_41 : decode cX11_row 41 = .ok (.imul, 1) := by decide +kernel
theorem dX11_row_42 : decode cX11_row 42 = .ok (.iload_n 2, 1) := by decide +kernel
theorem dX11_row_43 : decode cX11_row 43 = .ok (.iadd, 1) := by decide +kernel
theorem dX11_row_44 : decode cX11_row 44 = .ok (.iaload, 1) := by decide +kernel
theorem dX11_row_45 : decode cX11_row 45 = .ok (.iconst 2, 1) := by decide +kernel
theorem dX11_row_46 : decode cX11_row 46 = .ok (.if_icmp .ne 6, 3) := by decide +kernel
theorem dX11_row_49 : decode cX11_row 49 = .ok (.bipush (-2), 2) := by decide +kernel
theorem dX11_row_51 : decode cX11_row 51 = .ok (.ireturn, 1) := by decide +kernel
theorem dX11_row_52 : decode cX11_row 52 = .ok (.aload_n 0, 1) := by decide +kernel
theorem dX11_row_53 : decode cX11_row 53 = .ok (.iload_n 1, 1) := by decide +kernel
theorem dX11_row_54 : decode cX11_row 54 = .ok (.iload_n 2, 1) := by decide +kernel
theorem dX11_row_55 : decode cX11_row 55 = .ok (.invokevirtual 389, 3) := by decide +kernel
theorem dX11_row_58 : decode cX11_row 58 = .ok (.ifCond .eq 6, 3) := by decide +kernel
theorem dX11_row_61 : decode cX11_row 61 = .ok (.bipush (-3), 2) := by decide +kernel
theorem dX11_row_63 : decode cX11_row 63 = .ok (.ireturn, 1) := by decide +kernel
theorem dX11_row_64 : decode cX11_row 64 = .ok (.aload_n 0, 1) := by decide +kernel
theorem dX11_row_65 : decode cX11_row 65 = .ok (.iload_n 1, 1) := by decide +kernel
theorem dX11_row_66 : decode cX11_row 66 = .ok (.iload_n 2, 1) := by decide +kernel
theorem dX11_row_67 : decode cX11_row 67 = .ok (.invokevirtual 392, 3) := by decide +kernel
theorem dX11_row_70 : decode cX11_row 70 = .ok (.iconst 4, 1) := by decide +kernel
theorem dX11_row_71 : decode cX11_row 71 = .ok (.iload_n 1, 1) := by decide +kernel
theorem dX11_row_72 : decode cX11_row 72 = .ok (.imul, 1) := by decide +kernel
theorem dX11_row_73 : decode cX11_row 73 = .ok (.iload_n 2, 1) := by decide +kernel
theorem dX11_row_74 : decode cX11_row 74 = .ok (.iadd, 1) := by decide +kernel
theorem dX11_row_75 : decode cX11_row 75 = .ok (.istore 6, 2) := by decide +kernel
theorem dX11_row_77 : decode cX11_row 77 = .ok (.lload_n 3, 1) := by decide +kernel
theorem dX11_row_78 : decode cX11_row 78 = .ok (.aload_n 0, 1) := by decide +kernel
theorem dX11_row_79 : decode cX11_row 79 = .ok (.getfield 72, 3) := by decide +kernel
theorem dX11_row_82 : decode cX11_row 82 = .ok (.iload 6, 2) := by decide +kernel
theorem dX11_row_84 : decode cX11_row 84 = .ok (.laload, 1) := by decide +kernel
theorem dX11_row_85 : decode cX11_row 85 = .ok (.lcmp, 1) := by decide +kernel
theorem dX11_row_86 : decode cX11_row 86 = .ok (.ifCond .le 18, 3) := by decide +kernel
theorem dX11_row_89 : decode cX11_row 89 = .ok (.lload_n 3, 1) := by decide +kernel
theorem dX11_row_90 : decode cX11_row 90 = .ok (.aload_n 0, 1) := by decide +kernel
theorem dX11_row_91 : decode cX11_row 91 = .ok (.getfield 63, 3) := by decide +kernel
theorem dX11_row_94 : decode cX11_row 94 = .ok (.iload_n 1, 1) := by decide +kernel
theorem dX11_row_95 : decode cX11_row 95 = .ok (.laload, 1) := by decide +kernel
theorem dX11_row_96 : decode cX11_row 96 = .ok (.lcmp, 1) := by decide +kernel
theorem dX11_row_97 : decode cX11_row 97 = .ok (.ifCond .le 7, 3) := by decide +kernel
theorem dX11_row_100 : decode cX11_row 100 = .ok (.iconst 1, 1) := by decide +kernel
theorem dX11_row_101 : decode cX11_row 101 = .ok (.goto 4, 3) := by decide +kernel
theorem dX11_row_104 : decode cX11_row 104 = .ok (.iconst 0, 1) := by decide +kernel
theorem dX11_row_105 : decode cX11_row 105 = .ok (.istore 7, 2) := by decide +kernel
theorem dX11_row_107 : decode cX11_row 107 = .ok (.iload 7, 2) := by decide +kernel
theorem dX11_row_109 : decode cX11_row 109 = .ok (.ifCond .eq 64, 3) := by decide +kernel
theorem dX11_row_112 : decode cX11_row 112 = .ok (.aload_n 0, 1) := by decide +kernel
theorem dX11_row_113 : decode cX11_row 113 = .ok (.iload_n 1, 1) := by decide +kernel
theorem dX11_row_114 : decode cX11_row 114 = .ok (.lload_n 3, 1) := by decide +kernel
theorem dX11_row_115 : decode cX11_row 115 = .ok (.iload 5, 2) := by decide +kernel
theorem dX11_row_117 : decode cX11_row 117 = .ok (.iconst 1, 1) := by decide +kernel
theorem dX11_row_118 : decode cX11_row 118 = .ok (.invokevirtual 328, 3) := by decide +kernel
theorem dX11_row_121 : decode cX11_row 121 = .ok (.aload_n 0, 1) := by decide +kernel
theorem dX11_row_122 : decode cX11_row 122 = .ok (.getfield 29, 3) := by decide +kernel
theorem dX11_row_125 : decode cX11_row 125 = .ok (.bipush 12, 2) := by decide +kernel
theorem dX11_row_127 : decode cX11_row 127 = .ok (.iload_n 1, 1) := by decide +kernel
theorem dX11_row_128 : decode cX11_row 128 = .ok (.iadd, 1) := by decide +kernel
theorem dX11_row_129 : decode cX11_row 129 = .ok (.baload, 1) := by decide +kernel
theorem dX11_row_130 : decode cX11_row 130 = .ok (.ifCond .eq 52, 3) := by decide +kernel
theorem dX11_row_133 : decode cX11_row 133 = .ok (.aload_n 0, 1) := by decide +kernel
theorem dX11_row_134 : decode cX11_row 134 = .ok (.getfield 72, 3) := by decide +kernel
theorem dX11_row_137 : decode cX11_row 137 = .ok (.iload 6, 2) := by decide +kernel
theorem dX11_row_139 : decode cX11_row 139 = .ok (.aload_n 0, 1) := by decide +kernel
theorem dX11_row_140 : decode cX11_row 140 = .ok (.getfield 72, 3) := by decide +kernel
theorem dX11_row_143 : decode cX11_row 143 = .ok (.iload 6, 2) := by decide +kernel
theorem dX11_row_145 : decode cX11_row 145 = .ok (.laload, 1) := by decide +kernel
theorem dX11_row_146 : decode cX11_row 146 = .ok (.lload_n 3, 1) := by decide +kernel
theorem dX11_row_147 : decode cX11_row 147 = .ok (.aload_n 0, 1) := by decide +kernel
theorem dX11_row_148 : decode cX11_row 148 = .ok (.getfield 33, 3) := by decide +kernel
theorem dX11_row_151 : decode cX11_row 151 = .ok (.bipush 12, 2) := by decide +kernel
theorem dX11_row_153 : decode cX11_row 153 = .ok (.iload_n 1, 1) := by decide +kernel
theorem dX11_row_154 : decode cX11_row 154 = .ok (.iadd, 1) := by decide +kernel
theorem dX11_row_155 : decode cX11_row 155 = .ok (.laload, 1) := by decide +kernel
theorem dX11_row_156 : decode cX11_row 156 = .ok (.lneg, 1) := by decide +kernel
theorem dX11_row_157 : decode cX11_row 157 = .ok (.invokestatic 311, 3) := by decide +kernel
theorem dX11_row_160 : decode cX11_row 160 = .ok (.ldc2_w 363, 3) := by decide +kernel
theorem dX11_row_163 : decode cX11_row 163 = .ok (.invokestatic 311, 3) := by decide +kernel
theorem dX11_row_166 : decode cX11_row 166 = .ok (.invokestatic 336, 3) := by decide +kernel
theorem dX11_row_169 : decode cX11_row 169 = .ok (.lastore, 1) := by decide +kernel
theorem dX11_row_170 : decode cX11_row 170 = .ok (.goto 12, 3) := by decide +kernel
theorem dX11_row_173 : decode cX11_row 173 = .ok (.aload_n 0, 1) := by decide +kernel
theorem dX11_row_174 : decode cX11_row 174 = .ok (.iload_n 1, 1) := by decide +kernel
theorem dX11_row_175 : decode cX11_row 175 = .ok (.lload_n 3, 1) := by decide +kernel
theorem dX11_row_176 : decode cX11_row 176 = .ok (.iload 5, 2) := by decide +kernel
theorem dX11_row_178 : decode cX11_row 178 = .ok (.iconst 1, 1) := by decide +kernel
theorem dX11_row_179 : decode cX11_row 179 = .ok (.invokevirtual 314, 3) := by decide +kernel
theorem dX11_row_182 : decode cX11_row 182 = .ok (.aload_n 0, 1) := by decide +kernel
theorem dX11_row_183 : decode cX11_row 183 = .ok (.invokevirtual 395, 3) := by decide +kernel
theorem dX11_row_186 : decode cX11_row 186 = .ok (.iload 7, 2) := by decide +kernel
theorem dX11_row_188 : decode cX11_row 188 = .ok (.ifCond .eq 7, 3) := by decide +kernel
theorem dX11_row_191 : decode cX11_row 191 = .ok (.iconst 1, 1) := by decide +kernel
theorem dX11_row_192 : decode cX11_row 192 = .ok (.goto 4, 3) := by decide +kernel
theorem dX11_row_195 : decode cX11_row 195 = .ok (.iconst 0, 1) := by decide +kernel
theorem dX11_row_196 : decode cX11_row 196 = .ok (.ireturn, 1) := by decide +kernel
theorem dX11_mark_0 : decode cX11_mark 0 = .ok (.aload_n 0, 1) := by decide +kernel
theorem dX11_mark_1 : decode cX11_mark 1 = .ok (.iconst 0, 1) := by decide +kernel
theorem dX11_mark_2 : decode cX11_mark 2 = .ok (.putfield 123, 3) := by decide +kernel
theorem dX11_mark_5 : decode cX11_mark 5 = .ok (.aload_n 0, 1) := by decide +kernel
theorem dX11_mark_6 : decode cX11_mark 6 = .ok (.iload_n 1, 1) := by decide +kernel
theorem dX11_mark_7 : decode cX11_mark 7 = .ok (.iload_n 2, 1) := by decide +kernel
theorem dX11_mark_8 : decode cX11_mark 8 = .ok (.invokevirtual 381, 3) := by decide +kernel
theorem dX11_mark_11 : decode cX11_mark 11 = .ok (.ifCond .eq 10, 3) := by decide +kernel
theorem dX11_mark_14 : decode cX11_mark 14 = .ok (.lload_n 3, 1) := by decide +kernel
theorem dX11_mark_15 : decode cX11_mark 15 = .ok (.invokestatic 385, 3) := by decide +kernel
theorem dX11_mark_18 : decode cX11_mark 18 = .ok (.ifCond .ne 5, 3) := by decide +kernel
theorem dX11_mark_21 : decode cX11_mark 21 = .ok (.iconst (-1), 1) := by decide +kernel
theorem dX11_mark_22 : decode cX11_mark 22 = .ok (.ireturn, 1) := by decide +kernel
theorem dX11_mark_23 : decode cX11_mark 23 = .ok (.iconst 4, 1) := by decide +kernel
theorem dX11_mark_24 : decode cX11_mark 24 = .ok (.iload_n 1, 1) := by decide +kernel
theorem dX11_mark_25 : decode cX11_mark 25 = .ok (.imul, 1) := by decide +kernel
theorem dX11_mark_26 : decode cX11_mark 26 = .ok (.iload_n 2, 1) := by decide +kernel
theorem dX11_mark_27 : decode cX11_mark 27 = .ok (.iadd, 1) := by decide +kernel
theorem dX11_mark_28 : decode cX11_mark 28 = .ok (.istore 5, 2) := by decide +kernel
theorem dX11_mark_30 : decode cX11_mark 30 = .ok (.aload_n 0, 1) := by decide +kernel
theorem dX11_mark_31 : decode cX11_mark 31 = .ok (.getfield 69, 3) := by decide +kernel
theorem dX11_mark_34 : decode cX11_mark 34 = .ok (.iload 5, 2) := by decide +kernel
theorem dX11_mark_36 : decode cX11_mark 36 = .ok (.iaload, 1) := by decide +kernel
theorem dX11_mark_37 : decode cX11_mark 37 = .ok (.iconst 2, 1) := by decide +kernel
theorem dX11_mark_38 : decode cX11_mark 38 = .ok (.if_icmp .ne 6, 3) := by decide +kernel
theorem dX11_mark_41 : decode cX11_mark 41 = .ok (.bipush (-2), 2) := by decide +kernel
theorem dX11_mark_43 : decode cX11_mark 43 = .ok (.ireturn, 1) := by decide +kernel
theorem dX11_mark_44 : decode cX11_mark 44 = .ok (.aload_n 0, 1) := by decide +kernel
theorem dX11_mark_45 : decode cX11_mark 45 = .ok (.iload_n 1, 1) := by decide +kernel
theorem dX11_mark_46 : decode cX11_mark 46 = .ok (.iload_n 2, 1) := by decide +kernel
theorem dX11_mark_47 : decode cX11_mark 47 = .ok (.invokevirtual 389, 3) := by decide +kernel
theorem dX11_mark_50 : decode cX11_mark 50 = .ok (.ifCond .eq 6, 3) := by decide +kernel
theorem dX11_mark_53 : decode cX11_mark 53 = .ok (.bipush (-3), 2) := by decide +kernel
theorem dX11_mark_55 : decode cX11_mark 55 = .ok (.ireturn, 1) := by decide +kernel
theorem dX11_mark_56 : decode cX11_mark 56 = .ok (.aload_n 0, 1) := by decide +kernel
theorem dX11_mark_57 : decode cX11_mark 57 = .ok (.iload_n 1, 1) := by decide +kernel
theorem dX11_mark_58 : decode cX11_mark 58 = .ok (.iload_n 2, 1) := by decide +kernel
theorem dX11_mark_59 : decode cX11_mark 59 = .ok (.invokevirtual 392, 3) := by decide +kernel
theorem dX11_mark_62 : decode cX11_mark 62 = .ok (.lload_n 3, 1) := by decide +kernel
theorem dX11_mark_63 : decode cX11_mark 63 = .ok (.aload_n 0, 1) := by decide +kernel
theorem dX11_mark_64 : decode cX11_mark 64 = .ok (.getfield 72, 3) := by decide +kernel
theorem dX11_mark_67 : decode cX11_mark 67 = .ok (.iload 5, 2) := by decide +kernel
theorem dX11_mark_69 : decode cX11_mark 69 = .ok (.laload, 1) := by decide +kernel
theorem dX11_mark_70 : decode cX11_mark 70 = .ok (.lcmp, 1) := by decide +kernel
theorem dX11_mark_71 : decode cX11_mark 71 = .ok (.ifCond .le 7, 3) := by decide +kernel
theorem dX11_mark_74 : decode cX11_mark 74 = .ok (.iconst 1, 1) := by decide +kernel
theorem dX11_mark_75 : decode cX11_mark 75 = .ok (.goto 4, 3) := by decide +kernel
theorem dX11_mark_78 : decode cX11_mark 78 = .ok (.iconst 0, 1) := by decide +kernel
theorem dX11_mark_79 : decode cX11_mark 79 = .ok (.istore 6, 2) := by decide +kernel
theorem dX11_mark_81 : decode cX11_mark 81 = .ok (.aload_n 0, 1) := by decide +kernel
theorem dX11_mark_82 : decode cX11_mark 82 = .ok (.getfield 72, 3) := by decide +kernel
theorem dX11_mark_85 : decode cX11_mark 85 = .ok (.iload 5, 2) := by decide +kernel
theorem dX11_mark_87 : decode cX11_mark 87 = .ok (.iload 6, 2) := by decide +kernel
theorem dX11_mark_89 : decode cX11_mark 89 = .ok (.ifCond .eq 7, 3) := by decide +kernel
theorem dX11_mark_92 : decode cX11_mark 92 = .ok (.lload_n 3, 1) := by decide +kernel
theorem dX11_mark_93 : decode cX11_mark 93 = .ok (.goto 10, 3) := by decide +kernel
theorem dX11_mark_96 : decode cX11_mark 96 = .ok (.aload_n 0, 1) := by decide +kernel
theorem dX11_mark_97 : decode cX11_mark 97 = .ok (.getfield 72, 3) := by decide +kernel
theorem dX11_mark_100 : decode cX11_mark 100 = .ok (.iload 5, 2) := by decide +kernel
theorem dX11_mark_102 : decode cX11_mark 102 = .ok (.laload, 1) := by decide +kernel
theorem dX11_mark_103 : decode cX11_mark 103 = .ok (.lastore, 1) := by decide +kernel
theorem dX11_mark_104 : decode cX11_mark 104 = .ok (.aload_n 0, 1) := by decide +kernel
theorem dX11_mark_105 : decode cX11_mark 105 = .ok (.invokevirtual 395, 3) := by decide +kernel
theorem dX11_mark_108 : decode cX11_mark 108 = .ok (.iload 6, 2) := by decide +kernel
theorem dX11_mark_110 : decode cX11_mark 110 = .ok (.ifCond .eq 7, 3) := by decide +kernel
theorem dX11_mark_113 : decode cX11_mark 113 = .ok (.iconst 1, 1) := by decide +kernel
theorem dX11_mark_114 : decode cX11_mark 114 = .ok (.goto 4, 3) := by decide +kernel
theorem dX11_mark_117 : decode cX11_mark 117 = .ok (.iconst 0, 1) := by decide +kernel
theorem dX11_mark_118 : decode cX11_mark 118 = .ok (.ireturn, 1) := by decide +kernel
theorem dX11_end_0 : decode cX11_end 0 = .ok (.aload_n 0, 1) := by decide +kernel
theorem dX11_end_1 : decode cX11_end 1 = .ok (.iconst 0, 1) := by decide +kernel
theorem dX11_end_2 : decode cX11_end 2 = .ok (.putfield 123, 3) := by decide +kernel
theorem dX11_end_5 : decode cX11_end 5 = .ok (.aload_n 0, 1) := by decide +kernel
theorem dX11_end_6 : decode cX11_end 6 = .ok (.iload_n 1, 1) := by decide +kernel
theorem dX11_end_7 : decode cX11_end 7 = .ok (.iload_n 2, 1) := by decide +kernel
theorem dX11_end_8 : decode cX11_end 8 = .ok (.invokevirtual 381, 3) := by decide +kernel
theorem dX11_end_11 : decode cX11_end 11 = .ok (.ifCond .ne 5, 3) := by decide +kernel
theorem dX11_end_14 : decode cX11_end 14 = .ok (.iconst (-1), 1) := by decide +kernel
theorem dX11_end_15 : decode cX11_end 15 = .ok (.ireturn, 1) := by decide +kernel
theorem dX11_end_16 : decode cX11_end 16 = .ok (.iconst 4, 1) := by decide +kernel
theorem dX11_end_17 : decode cX11_end 17 = .ok (.iload_n 1, 1) := by decide +kernel
theorem dX11_end_18 : decode cX11_end 18 = .ok (.imul, 1) := by decide +kernel
theorem dX11_end_19 : decode cX11_end 19 = .ok (.iload_n 2, 1) := by decide +kernel
theorem dX11_end_20 : decode cX11_end 20 = .ok (.iadd, 1) := by decide +kernel
theorem dX11_end_21 : decode cX11_end 21 = .ok (.istore_n 3, 1) := by decide +kernel
theorem dX11_end_22 : decode cX11_end 22 = .ok (.aload_n 0, 1) := by decide +kernel
theorem dX11_end_23 : decode cX11_end 23 = .ok (.getfield 69, 3) := by decide +kernel
theorem dX11_end_26 : decode cX11_end 26 = .ok (.iload_n 3, 1) := by decide +kernel
theorem dX11_end_27 : decode cX11_end 27 = .ok (.iaload, 1) := by decide +kernel
theorem dX11_end_28 : decode cX11_end 28 = .ok (.iconst 2, 1) := by decide +kernel
theorem dX11_end_29 : decode cX11_end 29 = .ok (.if_icmp .ne 6, 3) := by decide +kernel
theorem dX11_end_32 : decode cX11_end 32 = .ok (.bipush (-2), 2) := by decide +kernel
theorem dX11_end_34 : decode cX11_end 34 = .ok (.ireturn, 1) := by decide +kernel
theorem dX11_end_35 : decode cX11_end 35 = .ok (.aload_n 0, 1) := by decide +kernel
theorem dX11_end_36 : decode cX11_end 36 = .ok (.getfield 69, 3) := by decide +kernel
theorem dX11_end_39 : decode cX11_end 39 = .ok (.iload_n 3, 1) := by decide +kernel
theorem dX11_end_40 : decode cX11_end 40 = .ok (.iconst 2, 1) := by decide +kernel
theorem dX11_end_41 : decode cX11_end 41 = .ok (.iastore, 1) := by decide +kernel
theorem dX11_end_42 : decode cX11_end 42 = .ok (.aload_n 0, 1) := by decide +kernel
theorem dX11_end_43 : decode cX11_end 43 = .ok (.getfield 72, 3) := by decide +kernel
theorem dX11_end_46 : decode cX11_end 46 = .ok (.iload_n 3, 1) := by decide +kernel
theorem dX11_end_47 : decode cX11_end 47 = .ok (.ldc2_w 298, 3) := by decide +kernel
theorem dX11_end_50 : decode cX11_end 50 = .ok (.lastore, 1) := by decide +kernel
theorem dX11_end_51 : decode cX11_end 51 = .ok (.aload_n 0, 1) := by decide +kernel
theorem dX11_end_52 : decode cX11_end 52 = .ok (.invokevirtual 395, 3) := by decide +kernel
theorem dX11_end_55 : decode cX11_end 55 = .ok (.iconst 1, 1) := by decide +kernel
theorem dX11_end_56 : decode cX11_end 56 = .ok (.ireturn, 1) := by decide +kernel
theorem dX11_idle_0 : decode cX11_idle 0 = .ok (.aload_n 0, 1) := by decide +kernel
theorem dX11_idle_1 : decode cX11_idle 1 = .ok (.iconst 0, 1) := by decide +kernel
theorem dX11_idle_2 : decode cX11_idle 2 = .ok (.putfield 123, 3) := by decide +kernel
theorem dX11_idle_5 : decode cX11_idle 5 = .ok (.aload_n 0, 1) := by decide +kernel
theorem dX11_idle_6 : decode cX11_idle 6 = .ok (.iload_n 1, 1) := by decide +kernel
theorem dX11_idle_7 : decode cX11_idle 7 = .ok (.iload_n 2, 1) := by decide +kernel
theorem dX11_idle_8 : decode cX11_idle 8 = .ok (.invokevirtual 381, 3) := by decide +kernel
theorem dX11_idle_11 : decode cX11_idle 11 = .ok (.ifCond .ne 5, 3) := by decide +kernel
theorem dX11_idle_14 : decode cX11_idle 14 = .ok (.iconst (-1), 1) := by decide +kernel
theorem dX11_idle_15 : decode cX11_idle 15 = .ok (.ireturn, 1) := by decide +kernel
theorem dX11_idle_16 : decode cX11_idle 16 = .ok (.iconst 4, 1) := by decide +kernel
theorem dX11_idle_17 : decode cX11_idle 17 = .ok (.iload_n 1, 1) := by decide +kernel
theorem dX11_idle_18 : decode cX11_idle 18 = .ok (.imul, 1) := by decide +kernel
theorem dX11_idle_19 : decode cX11_idle 19 = .ok (.iload_n 2, 1) := by decide +kernel
theorem dX11_idle_20 : decode cX11_idle 20 = .ok (.iadd, 1) := by decide +kernel
theorem dX11_idle_21 : decode cX11_idle 21 = .ok (.istore 4, 2) := by decide +kernel
theorem dX11_idle_23 : decode cX11_idle 23 = .ok (.aload_n 0, 1) := by decide +kernel
theorem dX11_idle_24 : decode cX11_idle 24 = .ok (.getfield 69, 3) := by decide +kernel
theorem dX11_idle_27 : decode cX11_idle 27 = .ok (.iload 4, 2) := by decide +kernel
theorem dX11_idle_29 : decode cX11_idle 29 = .ok (.iaload, 1) := by decide +kernel
theorem dX11_idle_30 : decode cX11_idle 30 = .ok (.iconst 2, 1) := by decide +kernel
theorem dX11_idle_31 : decode cX11_idle 31 = .ok (.if_icmp .ne 6, 3) := by decide +kernel
theorem dX11_idle_34 : decode cX11_idle 34 = .ok (.bipush (-2), 2) := by decide +kernel
theorem dX11_idle_36 : decode cX11_idle 36 = .ok (.ireturn, 1) := by decide +kernel
theorem dX11_idle_37 : decode cX11_idle 37 = .ok (.iload_n 3, 1) := by decide +kernel
theorem dX11_idle_38 : decode cX11_idle 38 = .ok (.aload_n 0, 1) := by decide +kernel
theorem dX11_idle_39 : decode cX11_idle 39 = .ok (.getfield 69, 3) := by decide +kernel
theorem dX11_idle_42 : decode cX11_idle 42 = .ok (.iload 4, 2) := by decide +kernel
theorem dX11_idle_44 : decode cX11_idle 44 = .ok (.iaload, 1) := by decide +kernel
theorem dX11_idle_45 : decode cX11_idle 45 = .ok (.iconst 1, 1) := by decide +kernel
theorem dX11_idle_46 : decode cX11_idle 46 = .ok (.if_icmp .ne 7, 3) := by decide +kernel
theorem dX11_idle_49 : decode cX11_idle 49 = .ok (.iconst 1, 1) := by decide +kernel
theorem dX11_idle_50 : decode cX11_idle 50 = .ok (.goto 4, 3) := by decide +kernel
theorem dX11_idle_53 : decode cX11_idle 53 = .ok (.iconst 0, 1) := by decide +kernel
theorem dX11_idle_54 : decode cX11_idle 54 = .ok (.if_icmp .eq 7, 3) := by decide +kernel
theorem dX11_idle_57 : decode cX11_idle 57 = .ok (.iconst 1, 1) := by decide +kernel
theorem dX11_idle_58 : decode cX11_idle 58 = .ok (.goto 4, 3) := by decide +kernel
theorem dX11_idle_61 : decode cX11_idle 61 = .ok (.iconst 0, 1) := by decide +kernel
theorem dX11_idle_62 : decode cX11_idle 62 = .ok (.istore 5, 2) := by decide +kernel
theorem dX11_idle_64 : decode cX11_idle 64 = .ok (.iload 5, 2) := by decide +kernel
theorem dX11_idle_66 : decode cX11_idle 66 = .ok (.ifCond .eq 18, 3) := by decide +kernel
theorem dX11_idle_69 : decode cX11_idle 69 = .ok (.iload_n 3, 1) := by decide +kernel
theorem dX11_idle_70 : decode cX11_idle 70 = .ok (.ifCond .eq 14, 3) := by decide +kernel
theorem dX11_idle_73 : decode cX11_idle 73 = .ok (.aload_n 0, 1) := by decide +kernel
theorem dX11_idle_74 : decode cX11_idle 74 = .ok (.getfield 69, 3) := by decide +kernel
theorem dX11_idle_77 : decode cX11_idle 77 = .ok (.iload 4, 2) := by decide +kernel
theorem dX11_idle_79 : decode cX11_idle 79 = .ok (.iconst 1, 1) := by decide +kernel
theorem dX11_idle_80 : decode cX11_idle 80 = .ok (.iastore, 1) := by decide +kernel
theorem dX11_idle_81 : decode cX11_idle 81 = .ok (.goto 14, 3) := by decide +kernel
theorem dX11_idle_84 : decode cX11_idle 84 = .ok (.iload 5, 2) := by decide +kernel
theorem dX11_idle_86 : decode cX11_idle 86 = .ok (.ifCond .eq 9, 3) := by decide +kernel
theorem dX11_idle_89 : decode cX11_idle 89 = .ok (.aload_n 0, 1) := by decide +kernel
theorem dX11_idle_90 : decode cX11_idle 90 = .ok (.iload_n 1, 1) := by decide +kernel
theorem dX11_idle_91 : decode cX11_idle 91 = .ok (.iload_n 2, 1) := by decide +kernel
theorem dX11_idle_92 : decode cX11_idle 92 = .ok (.invokevirtual 392, 3) := by decide +kernel
theorem dX11_idle_95 : decode cX11_idle 95 = .ok (.aload_n 0, 1) := by decide +kernel
theorem dX11_idle_96 : decode cX11_idle 96 = .ok (.invokevirtual 395, 3) := by decide +kernel
theorem dX11_idle_99 : decode cX11_idle 99 = .ok (.iload 5, 2) := by decide +kernel
theorem dX11_idle_101 : decode cX11_idle 101 = .ok (.ifCond .eq 7, 3) := by decide +kernel
theorem dX11_idle_104 : decode cX11_idle 104 = .ok (.iconst 1, 1) := by decide +kernel
theorem dX11_idle_105 : decode cX11_idle 105 = .ok (.goto 4, 3) := by decide +kernel
theorem dX11_idle_108 : decode cX11_idle 108 = .ok (.iconst 0, 1) := by decide +kernel
theorem dX11_idle_109 : decode cX11_idle 109 = .ok (.ireturn, 1) := by decide +kernel
theorem dX11_turn_0 : decode cX11_turn 0 = .ok (.aload_n 0, 1) := by decide +kernel
theorem dX11_turn_1 : decode cX11_turn 1 = .ok (.iconst 0, 1) := by decide +kernel
theorem dX11_turn_2 : decode cX11_turn 2 = .ok (.putfield 123, 3) := by decide +kernel
theorem dX11_turn_5 : decode cX11_turn 5 = .ok (.aload_n 0, 1) := by decide +kernel
theorem dX11_turn_6 : decode cX11_turn 6 = .ok (.getfield 277, 3) := by decide +kernel
theorem dX11_turn_9 : decode cX11_turn 9 = .ok (.ifCond .eq 15, 3) := by decide +kernel
theorem dX11_turn_12 : decode cX11_turn 12 = .ok (.iload_n 1, 1) := by decide +kernel
theorem dX11_turn_13 : decode cX11_turn 13 = .ok (.iconst 1, 1) := by decide +kernel
theorem dX11_turn_14 : decode cX11_turn 14 = .ok (.if_icmp .lt 10, 3) := by decide +kernel
theorem dX11_turn_17 : decode cX11_turn 17 = .ok (.iload_n 1, 1) := by decide +kernel
theorem dX11_turn_18 : decode cX11_turn 18 = .ok (.sipush 1000, 3) := by decide +kernel
theorem dX11_turn_21 : decode cX11_turn 21 = .ok (.if_icmp .le 5, 3) := by decide +kernel
theorem dX11_turn_24 : decode cX11_turn 24 = .ok (.iconst (-1), 1) := by decide +kernel
theorem dX11_turn_25 : decode cX11_turn 25 = .ok (.ireturn, 1) := by decide +kernel
theorem dX11_turn_26 : decode cX11_turn 26 = .ok (.aload_n 0, 1) := by decide +kernel
theorem dX11_turn_27 : decode cX11_turn 27 = .ok (.dup, 1) := by decide +kernel
theorem dX11_turn_28 : decode cX11_turn 28 = .ok (.getfield 292, 3) := by decide +kernel
theorem dX11_turn_31 : decode cX11_turn 31 = .ok (.iload_n 1, 1) := by decide +kernel
theorem dX11_turn_32 : decode cX11_turn 32 = .ok (.iadd, 1) := by decide +kernel
theorem dX11_turn_33 : decode cX11_turn 33 = .ok (.putfield 292, 3) := by decide +kernel
theorem dX11_turn_36 : decode cX11_turn 36 = .ok (.iconst 0, 1) := by decide +kernel
theorem dX11_turn_37 : decode cX11_turn 37 = .ok (.istore_n 2, 1) := by decide +kernel
theorem dX11_turn_38 : decode cX11_turn 38 = .ok (.iconst 0, 1) := by decide +kernel
theorem dX11_turn_39 : decode cX11_turn 39 = .ok (.istore_n 3, 1) := by decide +kernel
theorem dX11_turn_40 : decode cX11_turn 40 = .ok (.iload_n 3, 1) := by decide +kernel
theorem dX11_turn_41 : decode cX11_turn 41 = .ok (.aload_n 0, 1) := by decide +kernel
theorem dX11_turn_42 : decode cX11_turn 42 = .ok (.getfield 60, 3) := by decide +kernel
theorem dX11_turn_45 : decode cX11_turn 45 = .ok (.iconst 1, 1) := by decide +kernel
theorem dX11_turn_46 : decode cX11_turn 46 = .ok (.iaload, 1) := by decide +kernel
theorem dX11_turn_47 : decode cX11_turn 47 = .ok (.if_icmp .ge 116, 3) := by decide +kernel
theorem dX11_turn_50 : decode cX11_turn 50 = .ok (.iconst 0, 1) := by decide +kernel
theorem dX11_turn_51 : decode cX11_turn 51 = .ok (.istore 4, 2) := by decide +kernel
theorem dX11_turn_53 : decode cX11_turn 53 = .ok (.iload 4, 2) := by decide +kernel
theorem dX11_turn_55 : decode cX11_turn 55 = .ok (.aload_n 0, 1) := by decide +kernel
theorem dX11_turn_56 : decode cX11_turn 56 = .ok (.getfield 26, 3) := by decide +kernel
theorem dX11_turn_59 : decode cX11_turn 59 = .ok (.bipush 12, 2) := by decide +kernel
theorem dX11_turn_61 : decode cX11_turn 61 = .ok (.iload_n 3, 1) := by decide +kernel
theorem dX11_turn_62 : decode cX11_turn 62 = .ok (.iadd, 1) := by decide +kernel
theorem dX11_turn_63 : decode cX11_turn 63 = .ok (.iaload, 1) := by decide +kernel
theorem dX11_turn_64 : decode cX11_turn 64 = .ok (.if_icmp .ge 93, 3) := by decide +kernel
theorem dX11_turn_67 : decode cX11_turn 67 = .ok (.iconst 4, 1) := by decide +kernel
theorem dX11_turn_68 : decode cX11_turn 68 = .ok (.iload_n 3, 1) := by decide +kernel
theorem dX11_turn_69 : decode cX11_turn 69 = .ok (.imul, 1) := by decide +kernel
theorem dX11_turn_70 : decode cX11_turn 70 = .ok (.iload 4, 2) := by decide +kernel
theorem dX11_turn_72 : decode cX11_turn 72 = .ok (.iadd, 1) := by decide +kernel
theorem dX11_turn_73 : decode cX11_turn 73 = .ok (.istore 5, 2) := by decide +kernel
theorem dX11_turn_75 : decode cX11_turn 75 = .ok (.aload_n 0, 1) := by decide +kernel
theorem dX11_turn_76 : decode cX11_turn 76 = .ok (.getfield 117, 3) := by decide +kernel
theorem dX11_turn_79 : decode cX11_turn 79 = .ok (.iload 5, 2) := by decide +kernel
theorem dX11_turn_81 : decode cX11_turn 81 = .ok (.aload_n 0, 1) := by decide +kernel
theorem dX11_turn_82 : decode cX11_turn 82 = .ok (.iload_n 3, 1) := by decide +kernel
theorem dX11_turn_83 : decode cX11_turn 83 = .ok (.invokevirtual 308, 3) := by decide +kernel
theorem dX11_turn_86 : decode cX11_turn 86 = .ok (.ifCond .ne 63, 3) := by decide +kernel
theorem dX11_turn_89 : decode cX11_turn 89 = .ok (.aload_n 0, 1) := by decide +kernel
theorem dX11_turn_90 : decode cX11_turn 90 = .ok (.getfield 39, 3) := by decide +kernel
theorem dX11_turn_93 : decode cX11_turn 93 = .ok (.bipush 12, 2) := by decide +kernel
theorem dX11_turn_95 : decode cX11_turn 95 = .ok (.iload_n 3, 1) := by decide +kernel
theorem dX11_turn_96 : decode cX11_turn 96 = .ok (.iadd, 1) := by decide +kernel
theorem dX11_turn_97 : decode cX11_turn 97 = .ok (.iaload, 1) := by decide +kernel
theorem dX11_turn_98 : decode cX11_turn 98 = .ok (.ifCond .le 51, 3) := by decide +kernel
theorem dX11_turn_101 : decode cX11_turn 101 = .ok (.aload_n 0, 1) := by decide +kernel
theorem dX11_turn_102 : decode cX11_turn 102 = .ok (.getfield 69, 3) := by decide +kernel
theorem dX11_turn_105 : decode cX11_turn 105 = .ok (.iload 5, 2) := by decide +kernel
theorem dX11_turn_107 : decode cX11_turn 107 = .ok (.iaload, 1) := by decide +kernel
theorem dX11_turn_108 : decode cX11_turn 108 = .ok (.ifCond .ne 41, 3) := by decide +kernel
theorem dX11_turn_111 : decode cX11_turn 111 = .ok (.aload_n 0, 1) := by decide +kernel
theorem dX11_turn_112 : decode cX11_turn 112 = .ok (.iload_n 3, 1) := by decide +kernel
theorem dX11_turn_113 : decode cX11_turn 113 = .ok (.iload 4, 2) := by decide +kernel
theorem dX11_turn_115 : decode cX11_turn 115 = .ok (.invokevirtual 389, 3) := by decide +kernel
theorem dX11_turn_118 : decode cX11_turn 118 = .ok (.ifCond .ne 31, 3) := by decide +kernel
theorem dX11_turn_121 : decode cX11_turn 121 = .ok (.aload_n 0, 1) := by decide +kernel
theorem dX11_turn_122 : decode cX11_turn 122 = .ok (.getfield 292, 3) := by decide +kernel
theorem dX11_turn_125 : decode cX11_turn 125 = .ok (.aload_n 0, 1) := by decide +kernel
theorem dX11_turn_126 : decode cX11_turn 126 = .ok (.getfield 75, 3) := by decide +kernel
theorem dX11_turn_129 : decode cX11_turn 129 = .ok (.iload 5, 2) := by decide +kernel
theorem dX11_turn_131 : decode cX11_turn 131 = .ok (.iaload, 1) := by decide +kernel
theorem dX11_turn_132 : decode cX11_turn 132 = .ok (.isub, 1) := by decide +kernel
theorem dX11_turn_133 : decode cX11_turn 133 = .ok (.aload_n 0, 1) := by decide +kernel
theorem dX11_turn_134 : decode cX11_turn 134 = .ok (.getfield 39, 3) := by decide +kernel
theorem dX11_turn_137 : decode cX11_turn 137 = .ok (.bipush 12, 2) := by decide +kernel
theorem dX11_turn_139 : decode cX11_turn 139 = .ok (.iload_n 3, 1) := by decide +kernel
theorem dX11_turn_140 : decode cX11_turn 140 = .ok (.iadd, 1) := by decide +kernel
theorem dX11_turn_141 : decode cX11_turn 141 = .ok (.iaload, 1) := by decide +kernel
theorem dX11_turn_142 : decode cX11_turn 142 = .ok (.if_icmp .lt 7, 3) := by decide +kernel
theorem dX11_turn_145 : decode cX11_turn 145 = .ok (.iconst 1, 1) := by decide +kernel
theorem dX11_turn_146 : decode cX11_turn 146 = .ok (.goto 4, 3) := by decide +kernel
theorem dX11_turn_149 : decode cX11_turn 149 = .ok (.iconst 0, 1) := by decide +kernel
theorem dX11_turn_150 : decode cX11_turn 150 = .ok (.bastore, 1) := by decide +kernel
theorem dX11_turn_151 : decode cX11_turn 151 = .ok (.iinc 4 1, 3) := by decide +kernel
theorem dX11_turn_154 : decode cX11_turn 154 = .ok (.goto (-101), 3) := by decide +kernel
theorem dX11_turn_157 : decode cX11_turn 157 = .ok (.iinc 3 1, 3) := by decide +kernel
theorem dX11_turn_160 : decode cX11_turn 160 = .ok (.goto (-120), 3) := by decide +kernel
theorem dX11_turn_163 : decode cX11_turn 163 = .ok (.iconst 0, 1) := by decide +kernel
theorem dX11_turn_164 : decode cX11_turn 164 = .ok (.istore_n 3, 1) := by decide +kernel
theorem dX11_turn_165 : decode cX11_turn 165 = .ok (.iload_n 3, 1) := by decide +kernel
theorem dX11_turn_166 : decode cX11_turn 166 = .ok (.aload_n 0, 1) := by decide +kernel
theorem dX11_turn_167 : decode cX11_turn 167 = .ok (.getfield 60, 3) := by decide +kernel
theorem dX11_turn_170 : decode cX11_turn 170 = .ok (.iconst 1, 1) := by decide +kernel
theorem dX11_turn_171 : decode cX11_turn 171 = .ok (.iaload, 1) := by decide +kernel
theorem dX11_turn_172 : decode cX11_turn 172 = .ok (.if_icmp .ge 61, 3) := by decide +kernel
theorem dX11_turn_175 : decode cX11_turn 175 = .ok (.iconst 0, 1) := by decide +kernel
theorem dX11_turn_176 : decode cX11_turn 176 = .ok (.istore 4, 2) := by decide +kernel
theorem dX11_turn_178 : decode cX11_turn 178 = .ok (.iload 4, 2) := by decide +kernel
theorem dX11_turn_180 : decode cX11_turn 180 = .ok (.aload_n 0, 1) := by decide +kernel
theorem dX11_turn_181 : decode cX11_turn 181 = .ok (.getfield 26, 3) := by decide +kernel
theorem dX11_turn_184 : decode cX11_turn 184 = .ok (.bipush 12, 2) := by decide +kernel
theorem dX11_turn_186 : decode cX11_turn 186 = .ok (.iload_n 3, 1) := by decide +kernel
theorem dX11_turn_187 : decode cX11_turn 187 = .ok (.iadd, 1) := by decide +kernel
theorem dX11_turn_188 : decode cX11_turn 188 = .ok (.iaload, 1) := by decide +kernel
theorem dX11_turn_189 : decode cX11_turn 189 = .ok (.if_icmp .ge 38, 3) := by decide +kernel
theorem dX11_turn_192 : decode cX11_turn 192 = .ok (.aload_n 0, 1) := by decide +kernel
theorem dX11_turn_193 : decode cX11_turn 193 = .ok (.getfield 117, 3) := by decide +kernel
theorem dX11_turn_196 : decode cX11_turn 196 = .ok (.iconst 4, 1) := by decide +kernel
theorem dX11_turn_197 : decode cX11_turn 197 = .ok (.iload_n 3, 1) := by decide +kernel
theorem dX11_turn_198 : decode cX11_turn 198 = .ok (.imul, 1) := by decide +kernel
theorem dX11_turn_199 : decode cX11_turn 199 = .ok (.iload 4, 2) := by decide +kernel
theorem dX11_turn_201 : decode cX11_turn 201 = .ok (.iadd, 1) := by decide +kernel
theorem dX11_turn_202 : decode cX11_turn 202 = .ok (.baload, 1) := by decide +kernel
theorem dX11_turn_203 : decode cX11_turn 203 = .ok (.ifCond .eq 18, 3) := by decide +kernel
theorem dX11_turn_206 : decode cX11_turn 206 = .ok (.aload_n 0, 1) := by decide +kernel
theorem dX11_turn_207 : decode cX11_turn 207 = .ok (.getfield 69, 3) := by decide +kernel
theorem dX11_turn_210 : decode cX11_turn 210 = .ok (.iconst 4, 1) := by decide +kernel
theorem dX11_turn_211 : decode cX11_turn 211 = .ok (.iload_n 3, 1) := by decide +kernel
theorem dX11_turn_212 : decode cX11_turn 212 = .ok (.imul, 1) := by decide +kernel
theorem dX11_turn_213 : decode cX11_turn 213 = .ok (.iload 4, 2) := by decide +kernel
theorem dX11_turn_215 : decode cX11_turn 215 = .ok (.iadd, 1) := by decide +kernel
theorem dX11_turn_216 : decode cX11_turn 216 = .ok (.iconst 1, 1) := by decide +kernel
theorem dX11_turn_217 : decode cX11_turn 217 = .ok (.iastore, 1) := by decide +kernel
theorem dX11_turn_218 : decode cX11_turn 218 = .ok (.iinc 2 1, 3) := by decide +kernel
theorem dX11_turn_221 : decode cX11_turn 221 = .ok (.iinc 4 1, 3) := by decide +kernel
theorem dX11_turn_224 : decode cX11_turn 224 = .ok (.goto (-46), 3) := by decide +kernel
theorem dX11_turn_227 : decode cX11_turn 227 = .ok (.iinc 3 1, 3) := by decide +kernel
theorem dX11_turn_230 : decode cX11_turn 230 = .ok (.goto (-65), 3) := by decide +kernel
theorem dX11_turn_233 : decode cX11_turn 233 = .ok (.aload_n 0, 1) := by decide +kernel
theorem dX11_turn_234 : decode cX11_turn 234 = .ok (.invokevirtual 395, 3) := by decide +kernel
theorem dX11_turn_237 : decode cX11_turn 237 = .ok (.iload_n 2, 1) := by decide +kernel
theorem dX11_turn_238 : decode cX11_turn 238 = .ok (.ireturn, 1) := by decide +kernel
theorem dX11_hold_0 : decode cX11_hold 0 = .ok (.aload_n 0, 1) := by decide +kernel
theorem dX11_hold_1 : decode cX11_hold 1 = .ok (.iconst 0, 1) := by decide +kernel
theorem dX11_hold_2 : decode cX11_hold 2 = .ok (.putfield 123, 3) := by decide +kernel
theorem dX11_hold_5 : decode cX11_hold 5 = .ok (.aload_n 0, 1) := by decide +kernel
theorem dX11_hold_6 : decode cX11_hold 6 = .ok (.iload_n 1, 1) := by decide +kernel
theorem dX11_hold_7 : decode cX11_hold 7 = .ok (.invokevirtual 371, 3) := by decide +kernel
theorem dX11_hold_10 : decode cX11_hold 10 = .ok (.ifCond .eq 19, 3) := by decide +kernel
theorem dX11_hold_13 : decode cX11_hold 13 = .ok (.aload_n 0, 1) := by decide +kernel
theorem dX11_hold_14 : decode cX11_hold 14 = .ok (.iload_n 1, 1) := by decide +kernel
theorem dX11_hold_15 : decode cX11_hold 15 = .ok (.invokevirtual 308, 3) := by decide +kernel
theorem dX11_hold_18 : decode cX11_hold 18 = .ok (.iconst 3, 1) := by decide +kernel
theorem dX11_hold_19 : decode cX11_hold 19 = .ok (.if_icmp .ne 10, 3) := by decide +kernel
theorem dX11_hold_22 : decode cX11_hold 22 = .ok (.lload_n 2, 1) := by decide +kernel
theorem dX11_hold_23 : decode cX11_hold 23 = .ok (.invokestatic 385, 3) := by decide +kernel
theorem dX11_hold_26 : decode cX11_hold 26 = .ok (.ifCond .ne 5, 3) := by decide +kernel
theorem dX11_hold_29 : decode cX11_hold 29 = .ok (.iconst (-1), 1) := by decide +kernel
theorem dX11_hold_30 : decode cX11_hold 30 = .ok (.ireturn, 1) := by decide +kernel
theorem dX11_hold_31 : decode cX11_hold 31 = .ok (.aload_n 0, 1) := by decide +kernel
theorem dX11_hold_32 : decode cX11_hold 32 = .ok (.getfield 295, 3) := by decide +kernel
theorem dX11_hold_35 : decode cX11_hold 35 = .ok (.bipush 60, 2) := by decide +kernel
theorem dX11_hold_37 : decode cX11_hold 37 = .ok (.if_icmp .ne 6, 3) := by decide +kernel
theorem dX11_hold_40 : decode cX11_hold 40 = .ok (.bipush (-4), 2) := by decide +kernel
theorem dX11_hold_42 : decode cX11_hold 42 = .ok (.ireturn, 1) := by decide +kernel
theorem dX11_hold_43 : decode cX11_hold 43 = .ok (.lload_n 2, 1) := by decide +kernel
theorem dX11_hold_44 : decode cX11_hold 44 = .ok (.aload_n 0, 1) := by decide +kernel
theorem dX11_hold_45 : decode cX11_hold 45 = .ok (.getfield 63, 3) := by decide +kernel
theorem dX11_hold_48 : decode cX11_hold 48 = .ok (.iload_n 1, 1) := by decide +kernel
theorem dX11_hold_49 : decode cX11_hold 49 = .ok (.laload, 1) := by decide +kernel
theorem dX11_hold_50 : decode cX11_hold 50 = .ok (.lcmp, 1) := by decide +kernel
theorem dX11_hold_51 : decode cX11_hold 51 = .ok (.ifCond .gt 6, 3) := by decide +kernel
theorem dX11_hold_54 : decode cX11_hold 54 = .ok (.bipush (-5), 2) := by decide +kernel
theorem dX11_hold_56 : decode cX11_hold 56 = .ok (.ireturn, 1) := by decide +kernel
theorem dX11_hold_57 : decode cX11_hold 57 = .ok (.aload_n 0, 1) := by decide +kernel
theorem dX11_hold_58 : decode cX11_hold 58 = .ok (.getfield 295, 3) := by decide +kernel
theorem dX11_hold_61 : decode cX11_hold 61 = .ok (.istore 4, 2) := by decide +kernel
theorem dX11_hold_63 : decode cX11_hold 63 = .ok (.aload_n 0, 1) := by decide +kernel
theorem dX11_hold_64 : decode cX11_hold 64 = .ok (.dup, 1) := by decide +kernel
theorem dX11_hold_65 : decode cX11_hold 65 = .ok (.getfield 295, 3) := by decide +kernel
theorem dX11_hold_68 : decode cX11_hold 68 = .ok (.iconst 1, 1) := by decide +kernel
theorem dX11_hold_69 : decode cX11_hold 69 = .ok (.iadd, 1) := by decide +kernel
theorem dX11_hold_70 : decode cX11_hold 70 = .ok (.putfield 295, 3) := by decide +kernel
theorem dX11_hold_73 : decode cX11_hold 73 = .ok (.aload_n 0, 1) := by decide +kernel
theorem dX11_hold_74 : decode cX11_hold 74 = .ok (.getfield 108, 3) := by decide +kernel
theorem dX11_hold_77 : decode cX11_hold 77 = .ok (.iload 4, 2) := by decide +kernel
theorem dX11_hold_79 : decode cX11_hold 79 = .ok (.iload_n 1, 1) := by decide +kernel
theorem dX11_hold_80 : decode cX11_hold 80 = .ok (.iastore, 1) := by decide +kernel
theorem dX11_hold_81 : decode cX11_hold 81 = .ok (.aload_n 0, 1) := by decide +kernel
theorem dX11_hold_82 : decode cX11_hold 82 = .ok (.getfield 111, 3) := by decide +kernel
theorem dX11_hold_85 : decode cX11_hold 85 = .ok (.iload 4, 2) := by decide +kernel
theorem dX11_hold_87 : decode cX11_hold 87 = .ok (.lload_n 2, 1) := by decide +kernel
theorem dX11_hold_88 : decode cX11_hold 88 = .ok (.lastore, 1) := by decide +kernel
theorem dX11_hold_89 : decode cX11_hold 89 = .ok (.aload_n 0, 1) := by decide +kernel
theorem dX11_hold_90 : decode cX11_hold 90 = .ok (.getfield 114, 3) := by decide +kernel
theorem dX11_hold_93 : decode cX11_hold 93 = .ok (.iload 4, 2) := by decide +kernel
theorem dX11_hold_95 : decode cX11_hold 95 = .ok (.iconst 1, 1) := by decide +kernel
theorem dX11_hold_96 : decode cX11_hold 96 = .ok (.bastore, 1) := by decide +kernel
theorem dX11_hold_97 : decode cX11_hold 97 = .ok (.aload_n 0, 1) := by decide +kernel
theorem dX11_hold_98 : decode cX11_hold 98 = .ok (.invokevirtual 395, 3) := by decide +kernel
theorem dX11_hold_101 : decode cX11_hold 101 = .ok (.iload 4, 2) := by decide +kernel
theorem dX11_hold_103 : decode cX11_hold 103 = .ok (.ireturn, 1) := by decide +kernel
theorem dX11_release_0 : decode cX11_release 0 = .ok (.aload_n 0, 1) := by decide +kernel
theorem dX11_release_1 : decode cX11_release 1 = .ok (.iconst 0, 1) := by decide +kernel
theorem dX11_release_2 : decode cX11_release 2 = .ok (.putfield 123, 3) := by decide +kernel
theorem dX11_release_5 : decode cX11_release 5 = .ok (.aload_n 0, 1) := by decide +kernel
theorem dX11_release_6 : decode cX11_release 6 = .ok (.getfield 277, 3) := by decide +kernel
theorem dX11_release_9 : decode cX11_release 9 = .ok (.ifCond .eq 34, 3) := by decide +kernel
theorem dX11_release_12 : decode cX11_release 12 = .ok (.iload_n 1, 1) := by decide +kernel
theorem dX11_release_13 : decode cX11_release 13 = .ok (.ifCond .lt 30, 3) := by decide +kernel
theorem dX11_release_16 : decode cX11_release 16 = .ok (.iload_n 1, 1) := by decide +kernel
theorem dX11_release_17 : decode cX11_release 17 = .ok (.aload_n 0, 1) := by decide +kernel
theorem dX11_release_18 : decode cX11_release 18 = .ok (.getfield 295, 3) := by decide +kernel
theorem dX11_release_21 : decode cX11_release 21 = .ok (.if_icmp .ge 22, 3) := by decide +kernel
theorem dX11_release_24 : decode cX11_release 24 = .ok (.aload_n 0, 1) := by decide +kernel
theorem dX11_release_25 : decode cX11_release 25 = .ok (.getfield 114, 3) := by decide +kernel
theorem dX11_release_28 : decode cX11_release 28 = .ok (.iload_n 1, 1) := by decide +kernel
theorem dX11_release_29 : decode cX11_release 29 = .ok (.baload, 1) := by decide +kernel
theorem dX11_release_30 : decode cX11_release 30 = .ok (.ifCond .eq 13, 3) := by decide +kernel
theorem dX11_release_33 : decode cX11_release 33 = .ok (.iload_n 3, 1) := by decide +kernel
theorem dX11_release_34 : decode cX11_release 34 = .ok (.ifCond .lt 9, 3) := by decide +kernel
theorem dX11_release_37 : decode cX11_release 37 = .ok (.iload_n 3, 1) := by decide +kernel
theorem dX11_release_38 : decode cX11_release 38 = .ok (.bipush 9, 2) := by decide +kernel
theorem dX11_release_40 : decode cX11_release 40 = .ok (.if_icmp .le 5, 3) := by decide +kernel
theorem dX11_release_43 : decode cX11_release 43 = .ok (.iconst (-1), 1) := by decide +kernel
theorem dX11_release_44 : decode cX11_release 44 = .ok (.ireturn, 1) := by decide +kernel
theorem dX11_release_45 : decode cX11_release 45 = .ok (.iload_n 2, 1) := by decide +kernel
theorem dX11_release_46 : decode cX11_release 46 = .ok (.ifCond .eq 21, 3) := by decide +kernel
theorem dX11_release_49 : decode cX11_release 49 = .ok (.aload_n 0, 1) := by decide +kernel
theorem dX11_release_50 : decode cX11_release 50 = .ok (.aload_n 0, 1) := by decide +kernel
theorem dX11_release_51 : decode cX11_release 51 = .ok (.getfield 108, 3) := by decide +kernel
theorem dX11_release_54 : decode cX11_release 54 = .ok (.iload_n 1, 1) := by decide +kernel
theorem dX11_release_55 : decode cX11_release 55 = .ok (.iaload, 1) := by decide +kernel
theorem dX11_release_56 : decode cX11_release 56 = .ok (.aload_n 0, 1) := by decide +kernel
theorem dX11_release_57 : decode cX11_release 57 = .ok (.getfield 111, 3) := by decide +kernel
theorem dX11_release_60 : decode cX11_release 60 = .ok (.iload_n 1, 1) := by decide +kernel
theorem dX11_release_61 : decode cX11_release 61 = .ok (.laload, 1) := by decide +kernel
theorem dX11_release_62 : decode cX11_release 62 = .ok (.iload_n 3, 1) := by decide +kernel
theorem dX11_release_63 : decode cX11_release 63 = .ok (.iconst 1, 1) := by decide +kernel
theorem dX11_release_64 : decode cX11_release 64 = .ok (.invokevirtual 328, 3) := by decide +kernel
theorem dX11_release_67 : decode cX11_release 67 = .ok (.aload_n 0, 1) := by decide +kernel
theorem dX11_release_68 : decode cX11_release 68 = .ok (.getfield 114, 3) := by decide +kernel
theorem dX11_release_71 : decode cX11_release 71 = .ok (.iload_n 1, 1) := by decide +kernel
theorem dX11_release_72 : decode cX11_release 72 = .ok (.iconst 0, 1) := by decide +kernel
theorem dX11_release_73 : decode cX11_release 73 = .ok (.bastore, 1) := by decide +kernel
theorem dX11_release_74 : decode cX11_release 74 = .ok (.aload_n 0, 1) := by decide +kernel
theorem dX11_release_75 : decode cX11_release 75 = .ok (.invokevirtual 395, 3) := by decide +kernel
theorem dX11_release_78 : decode cX11_release 78 = .ok (.iconst 1, 1) := by decide +kernel
theorem dX11_release_79 : decode cX11_release 79 = .ok (.ireturn, 1) := by decide +kernel
theorem dX11_mustBe_0 : decode cX11_mustBe 0 = .ok (.aload_n 0, 1) := by decide +kernel
theorem dX11_mustBe_1 : decode cX11_mustBe 1 = .ok (.aload_n 0, 1) := by decide +kernel
theorem dX11_mustBe_2 : decode cX11_mustBe 2 = .ok (.getfield 277, 3) := by decide +kernel
theorem dX11_mustBe_5 : decode cX11_mustBe 5 = .ok (.ifCond .ne 7, 3) := by decide +kernel
theorem dX11_mustBe_8 : decode cX11_mustBe 8 = .ok (.iconst 1, 1) := by decide +kernel
theorem dX11_mustBe_9 : decode cX11_mustBe 9 = .ok (.goto 16, 3) := by decide +kernel
theorem dX11_mustBe_12 : decode cX11_mustBe 12 = .ok (.aload_n 0, 1) := by decide +kernel
theorem dX11_mustBe_13 : decode cX11_mustBe 13 = .ok (.iload_n 1, 1) := by decide +kernel
theorem dX11_mustBe_14 : decode cX11_mustBe 14 = .ok (.invokevirtual 371, 3) := by decide +kernel
theorem dX11_mustBe_17 : decode cX11_mustBe 17 = .ok (.ifCond .eq 7, 3) := by decide +kernel
theorem dX11_mustBe_20 : decode cX11_mustBe 20 = .ok (.iconst 0, 1) := by decide +kernel
theorem dX11_mustBe_21 : decode cX11_mustBe 21 = .ok (.goto 4, 3) := by decide +kernel
theorem dX11_mustBe_24 : decode cX11_mustBe 24 = .ok (.iconst 2, 1) := by decide +kernel
theorem dX11_mustBe_25 : decode cX11_mustBe 25 = .ok (.putfield 123, 3) := by decide +kernel
theorem dX11_mustBe_28 : decode cX11_mustBe 28 = .ok (.aload_n 0, 1) := by decide +kernel
theorem dX11_mustBe_29 : decode cX11_mustBe 29 = .ok (.getfield 123, 3) := by decide +kernel
theorem dX11_mustBe_32 : decode cX11_mustBe 32 = .ok (.ifCond .ne 7, 3) := by decide +kernel
theorem dX11_mustBe_35 : decode cX11_mustBe 35 = .ok (.iconst 1, 1) := by decide +kernel
theorem dX11_mustBe_36 : decode cX11_mustBe 36 = .ok (.goto 4, 3) := by decide +kernel
theorem dX11_mustBe_39 : decode cX11_mustBe 39 = .ok (.iconst 0, 1) := by decide +kernel
theorem dX11_mustBe_40 : decode cX11_mustBe 40 = .ok (.ireturn, 1) := by decide +kernel
theorem dX11_watermark_0 : decode cX11_watermark 0 = .ok (.aload_n 0, 1) := by decide +kernel
theorem dX11_watermark_1 : decode cX11_watermark 1 = .ok (.iload_n 1, 1) := by decide +kernel
theorem dX11_watermark_2 : decode cX11_watermark 2 = .ok (.invokevirtual 398, 3) := by decide +kernel
theorem dX11_watermark_5 : decode cX11_watermark 5 = .ok (.ifCond .eq 12, 3) := by decide +kernel
theorem dX11_watermark_8 : decode cX11_watermark 8 = .ok (.aload_n 0, 1) := by decide +kernel
theorem dX11_watermark_9 : decode cX11_watermark 9 = .ok (.getfield 63, 3) := by decide +kernel
theorem dX11_watermark_12 : decode cX11_watermark 12 = .ok (.iload_n 1, 1) := by decide +kernel
theorem dX11_watermark_13 : decode cX11_watermark 13 = .ok (.laload, 1) := by decide +kernel
theorem dX11_watermark_14 : decode cX11_watermark 14 = .ok (.goto 4, 3) := by decide +kernel
theorem dX11_watermark_17 : decode cX11_watermark 17 = .ok (.lconst 0, 1) := by decide +kernel
theorem dX11_watermark_18 : decode cX11_watermark 18 = .ok (.lreturn, 1) := by decide +kernel
theorem dX11_isIdle_0 : decode cX11_isIdle 0 = .ok (.aload_n 0, 1) := by decide +kernel
theorem dX11_isIdle_1 : decode cX11_isIdle 1 = .ok (.iload_n 1, 1) := by decide +kernel
theorem dX11_isIdle_2 : decode cX11_isIdle 2 = .ok (.invokevirtual 398, 3) := by decide +kernel
theorem dX11_isIdle_5 : decode cX11_isIdle 5 = .ok (.ifCond .eq 16, 3) := by decide +kernel
theorem dX11_isIdle_8 : decode cX11_isIdle 8 = .ok (.aload_n 0, 1) := by decide +kernel
theorem dX11_isIdle_9 : decode cX11_isIdle 9 = .ok (.getfield 66, 3) := by decide +kernel
theorem dX11_isIdle_12 : decode cX11_isIdle 12 = .ok (.iload_n 1, 1) := by decide +kernel
theorem dX11_isIdle_13 : decode cX11_isIdle 13 = .ok (.baload, 1) := by decide +kernel
theorem dX11_isIdle_14 : decode cX11_isIdle 14 = .ok (.ifCond .eq 7, 3) := by decide +kernel
theorem dX11_isIdle_17 : decode cX11_isIdle 17 = .ok (.iconst 1, 1) := by decide +kernel
theorem dX11_isIdle_18 : decode cX11_isIdle 18 = .ok (.goto 4, 3) := by decide +kernel
theorem dX11_isIdle_21 : decode cX11_isIdle 21 = .ok (.iconst 0, 1) := by decide +kernel
theorem dX11_isIdle_22 : decode cX11_isIdle 22 = .ok (.ireturn, 1) := by decide +kernel
theorem dX11_promise_0 : decode cX11_promise 0 = .ok (.aload_n 0, 1) := by decide +kernel
theorem dX11_promise_1 : decode cX11_promise 1 = .ok (.aload_n 0, 1) := by decide +kernel
theorem dX11_promise_2 : decode cX11_promise 2 = .ok (.getfield 277, 3) := by decide +kernel
theorem dX11_promise_5 : decode cX11_promise 5 = .ok (.ifCond .ne 7, 3) := by decide +kernel
theorem dX11_promise_8 : decode cX11_promise 8 = .ok (.iconst 1, 1) := by decide +kernel
theorem dX11_promise_9 : decode cX11_promise 9 = .ok (.goto 17, 3) := by decide +kernel
theorem dX11_promise_12 : decode cX11_promise 12 = .ok (.aload_n 0, 1) := by decide +kernel
theorem dX11_promise_13 : decode cX11_promise 13 = .ok (.iload_n 1, 1) := by decide +kernel
theorem dX11_promise_14 : decode cX11_promise 14 = .ok (.iload_n 2, 1) := by decide +kernel
theorem dX11_promise_15 : decode cX11_promise 15 = .ok (.invokevirtual 381, 3) := by decide +kernel
theorem dX11_promise_18 : decode cX11_promise 18 = .ok (.ifCond .eq 7, 3) := by decide +kernel
theorem dX11_promise_21 : decode cX11_promise 21 = .ok (.iconst 0, 1) := by decide +kernel
theorem dX11_promise_22 : decode cX11_promise 22 = .ok (.goto 4, 3) := by decide +kernel
theorem dX11_promise_25 : decode cX11_promise 25 = .ok (.iconst 2, 1) := by decide +kernel
theorem dX11_promise_26 : decode cX11_promise 26 = .ok (.putfield 123, 3) := by decide +kernel
theorem dX11_promise_29 : decode cX11_promise 29 = .ok (.aload_n 0, 1) := by decide +kernel
theorem dX11_promise_30 : decode cX11_promise 30 = .ok (.getfield 123, 3) := by decide +kernel
theorem dX11_promise_33 : decode cX11_promise 33 = .ok (.ifCond .ne 16, 3) := by decide +kernel
theorem dX11_promise_36 : decode cX11_promise 36 = .ok (.aload_n 0, 1) := by decide +kernel
theorem dX11_promise_37 : decode cX11_promise 37 = .ok (.getfield 72, 3) := by decide +kernel
theorem dX11_promise_40 : decode cX11_promise 40 = .ok (.iconst 4, 1) := by decide +kernel
theorem dX11_promise_41 : decode cX11_promise 41 = .ok (.iload_n 1, 1) := by decide +kernel
theorem dX11_promise_42 : decode cX11_promise 42 = .ok (.imul, 1) := by decide +kernel
theorem dX11_promise_43 : decode cX11_promise 43 = .ok (.iload_n 2, 1) := by decide +kernel
theorem dX11_promise_44 : decode cX11_promise 44 = .ok (.iadd, 1) := by decide +kernel
theorem dX11_promise_45 : decode cX11_promise 45 = .ok (.laload, 1) := by decide +kernel
theorem dX11_promise_46 : decode cX11_promise 46 = .ok (.goto 4, 3) := by decide +kernel
theorem dX11_promise_49 : decode cX11_promise 49 = .ok (.lconst 0, 1) := by decide +kernel
theorem dX11_promise_50 : decode cX11_promise 50 = .ok (.lreturn, 1) := by decide +kernel
theorem dX11_part_0 : decode cX11_part 0 = .ok (.aload_n 0, 1) := by decide +kernel
theorem dX11_part_1 : decode cX11_part 1 = .ok (.iconst 0, 1) := by decide +kernel
theorem dX11_part_2 : decode cX11_part 2 = .ok (.putfield 123, 3) := by decide +kernel
theorem dX11_part_5 : decode cX11_part 5 = .ok (.aload_n 0, 1) := by decide +kernel
theorem dX11_part_6 : decode cX11_part 6 = .ok (.iload_n 1, 1) := by decide +kernel
theorem dX11_part_7 : decode cX11_part 7 = .ok (.iload_n 2, 1) := by decide +kernel
theorem dX11_part_8 : decode cX11_part 8 = .ok (.invokevirtual 381, 3) := by decide +kernel
theorem dX11_part_11 : decode cX11_part 11 = .ok (.ifCond .ne 5, 3) := by decide +kernel
theorem dX11_part_14 : decode cX11_part 14 = .ok (.iconst (-1), 1) := by decide +kernel
theorem dX11_part_15 : decode cX11_part 15 = .ok (.ireturn, 1) := by decide +kernel
theorem dX11_part_16 : decode cX11_part 16 = .ok (.aload_n 0, 1) := by decide +kernel
theorem dX11_part_17 : decode cX11_part 17 = .ok (.iload_n 1, 1) := by decide +kernel
theorem dX11_part_18 : decode cX11_part 18 = .ok (.iload_n 2, 1) := by decide +kernel
theorem dX11_part_19 : decode cX11_part 19 = .ok (.invokevirtual 389, 3) := by decide +kernel
theorem dX11_part_22 : decode cX11_part 22 = .ok (.ifCond .eq 7, 3) := by decide +kernel
theorem dX11_part_25 : decode cX11_part 25 = .ok (.iconst 3, 1) := by decide +kernel
theorem dX11_part_26 : decode cX11_part 26 = .ok (.goto 13, 3) := by decide +kernel
theorem dX11_part_29 : decode cX11_part 29 = .ok (.aload_n 0, 1) := by decide +kernel
theorem dX11_part_30 : decode cX11_part 30 = .ok (.getfield 69, 3) := by decide +kernel
theorem dX11_part_33 : decode cX11_part 33 = .ok (.iconst 4, 1) := by decide +kernel
theorem dX11_part_34 : decode cX11_part 34 = .ok (.iload_n 1, 1) := by decide +kernel
theorem dX11_part_35 : decode cX11_part 35 = .ok (.imul, 1) := by decide +kernel
theorem dX11_part_36 : decode cX11_part 36 = .ok (.iload_n 2, 1) := by decide +kernel
theorem dX11_part_37 : decode cX11_part 37 = .ok (.iadd, 1) := by decide +kernel
theorem dX11_part_38 : decode cX11_part 38 = .ok (.iaload, 1) := by decide +kernel
theorem dX11_part_39 : decode cX11_part 39 = .ok (.ireturn, 1) := by decide +kernel
theorem dX11_kept_0 : decode cX11_kept 0 = .ok (.aload_n 0, 1) := by decide +kernel
theorem dX11_kept_1 : decode cX11_kept 1 = .ok (.iload_n 1, 1) := by decide +kernel
theorem dX11_kept_2 : decode cX11_kept 2 = .ok (.invokevirtual 398, 3) := by decide +kernel
theorem dX11_kept_5 : decode cX11_kept 5 = .ok (.ifCond .ne 5, 3) := by decide +kernel
theorem dX11_kept_8 : decode cX11_kept 8 = .ok (.iconst 0, 1) := by decide +kernel
theorem dX11_kept_9 : decode cX11_kept 9 = .ok (.ireturn, 1) := by decide +kernel
theorem dX11_kept_10 : decode cX11_kept 10 = .ok (.iload_n 2, 1) := by decide +kernel
theorem dX11_kept_11 : decode cX11_kept 11 = .ok (.ifCond .lt 8, 3) := by decide +kernel
theorem dX11_kept_14 : decode cX11_kept 14 = .ok (.iload_n 2, 1) := by decide +kernel
theorem dX11_kept_15 : decode cX11_kept 15 = .ok (.iconst 1, 1) := by decide +kernel
theorem dX11_kept_16 : decode cX11_kept 16 = .ok (.if_icmp .le 10, 3) := by decide +kernel
theorem dX11_kept_19 : decode cX11_kept 19 = .ok (.aload_n 0, 1) := by decide +kernel
theorem dX11_kept_20 : decode cX11_kept 20 = .ok (.iconst 2, 1) := by decide +kernel
theorem dX11_kept_21 : decode cX11_kept 21 = .ok (.putfield 123, 3) := by decide +kernel
theorem dX11_kept_24 : decode cX11_kept 24 = .ok (.iconst 0, 1) := by decide +kernel
theorem dX11_kept_25 : decode cX11_kept 25 = .ok (.ireturn, 1) := by decide +kernel
theorem dX11_kept_26 : decode cX11_kept 26 = .ok (.aload_n 0, 1) := by decide +kernel
theorem dX11_kept_27 : decode cX11_kept 27 = .ok (.iload_n 1, 1) := by decide +kernel
theorem dX11_kept_28 : decode cX11_kept 28 = .ok (.invokevirtual 308, 3) := by decide +kernel
theorem dX11_kept_31 : decode cX11_kept 31 = .ok (.iconst 4, 1) := by decide +kernel
theorem dX11_kept_32 : decode cX11_kept 32 = .ok (.if_icmp .ne 14, 3) := by decide +kernel
theorem dX11_kept_35 : decode cX11_kept 35 = .ok (.aload_n 0, 1) := by decide +kernel
theorem dX11_kept_36 : decode cX11_kept 36 = .ok (.getfield 96, 3) := by decide +kernel
theorem dX11_kept_39 : decode cX11_kept 39 = .ok (.iconst 2, 1) := by decide +kernel
theorem dX11_kept_40 : decode cX11_kept 40 = .ok (.iload_n 1, 1) := by decide +kernel
theorem dX11_kept_41 : decode cX11_kept 41 = .ok (.imul, 1) := by decide +kernel
theorem dX11_kept_42 : decode cX11_kept 42 = .ok (.iload_n 2, 1) := by decide +kernel
theorem dX11_kept_43 : decode cX11_kept 43 = .ok (.iadd, 1) := by decide +kernel
theorem dX11_kept_44 : decode cX11_kept 44 = .ok (.iaload, 1) := by decide +kernel
theorem dX11_kept_45 : decode cX11_kept 45 = .ok (.ireturn, 1) := by decide +kernel
theorem dX11_kept_46 : decode cX11_kept 46 = .ok (.iload_n 2, 1) := by decide +kernel
theorem dX11_kept_47 : decode cX11_kept 47 = .ok (.iconst 1, 1) := by decide +kernel
theorem dX11_kept_48 : decode cX11_kept 48 = .ok (.if_icmp .ne 5, 3) := by decide +kernel
theorem dX11_kept_51 : decode cX11_kept 51 = .ok (.iconst 0, 1) := by decide +kernel
theorem dX11_kept_52 : decode cX11_kept 52 = .ok (.ireturn, 1) := by decide +kernel
theorem dX11_kept_53 : decode cX11_kept 53 = .ok (.aload_n 0, 1) := by decide +kernel
theorem dX11_kept_54 : decode cX11_kept 54 = .ok (.iload_n 1, 1) := by decide +kernel
theorem dX11_kept_55 : decode cX11_kept 55 = .ok (.invokevirtual 308, 3) := by decide +kernel
theorem dX11_kept_58 : decode cX11_kept 58 = .ok (.iconst 5, 1) := by decide +kernel
theorem dX11_kept_59 : decode cX11_kept 59 = .ok (.if_icmp .ne 12, 3) := by decide +kernel
theorem dX11_kept_62 : decode cX11_kept 62 = .ok (.aload_n 0, 1) := by decide +kernel
theorem dX11_kept_63 : decode cX11_kept 63 = .ok (.getfield 84, 3) := by decide +kernel
theorem dX11_kept_66 : decode cX11_kept 66 = .ok (.iload_n 1, 1) := by decide +kernel
theorem dX11_kept_67 : decode cX11_kept 67 = .ok (.iaload, 1) := by decide +kernel
theorem dX11_kept_68 : decode cX11_kept 68 = .ok (.goto 21, 3) := by decide +kernel
theorem dX11_kept_71 : decode cX11_kept 71 = .ok (.aload_n 0, 1) := by decide +kernel
theorem dX11_kept_72 : decode cX11_kept 72 = .ok (.iload_n 1, 1) := by decide +kernel
theorem dX11_kept_73 : decode cX11_kept 73 = .ok (.invokevirtual 308, 3) := by decide +kernel
theorem dX11_kept_76 : decode cX11_kept 76 = .ok (.iconst 3, 1) := by decide +kernel
theorem dX11_kept_77 : decode cX11_kept 77 = .ok (.if_icmp .ne 11, 3) := by decide +kernel
theorem dX11_kept_80 : decode cX11_kept 80 = .ok (.aload_n 0, 1) := by decide +kernel
theorem dX11_kept_81 : decode cX11_kept 81 = .ok (.iload_n 1, 1) := by decide +kernel
theorem dX11_kept_82 : decode cX11_kept 82 = .ok (.invokevirtual 401, 3) := by decide +kernel
theorem dX11_kept_85 : decode cX11_kept 85 = .ok (.goto 4, 3) := by decide +kernel
theorem dX11_kept_88 : decode cX11_kept 88 = .ok (.iconst 0, 1) := by decide +kernel
theorem dX11_kept_89 : decode cX11_kept 89 = .ok (.ireturn, 1) := by decide +kernel
theorem dX11_heldIn_0 : decode cX11_heldIn 0 = .ok (.iconst 0, 1) := by decide +kernel
theorem dX11_heldIn_1 : decode cX11_heldIn 1 = .ok (.istore_n 2, 1) := by decide +kernel
theorem dX11_heldIn_2 : decode cX11_heldIn 2 = .ok (.iconst 0, 1) := by decide +kernel
theorem dX11_heldIn_3 : decode cX11_heldIn 3 = .ok (.istore_n 3, 1) := by decide +kernel
theorem dX11_heldIn_4 : decode cX11_heldIn 4 = .ok (.iload_n 3, 1) := by decide +kernel
theorem dX11_heldIn_5 : decode cX11_heldIn 5 = .ok (.aload_n 0, 1) := by decide +kernel
theorem dX11_heldIn_6 : decode cX11_heldIn 6 = .ok (.getfield 295, 3) := by decide +kernel
theorem dX11_heldIn_9 : decode cX11_heldIn 9 = .ok (.if_icmp .ge 40, 3) := by decide +kernel
theorem dX11_heldIn_12 : decode cX11_heldIn 12 = .ok (.iload_n 2, 1) := by decide +kernel
theorem dX11_heldIn_13 : decode cX11_heldIn 13 = .ok (.aload_n 0, 1) := by decide +kernel
theorem dX11_heldIn_14 : decode cX11_heldIn 14 = .ok (.getfield 114, 3) := by decide +kernel
theorem dX11_heldIn_17 : decode cX11_heldIn 17 = .ok (.iload_n 3, 1) := by decide +kernel
theorem dX11_heldIn_18 : decode cX11_heldIn 18 = .ok (.baload, 1) := by decide +kernel
theorem dX11_heldIn_19 : decode cX11_heldIn 19 = .ok (.ifCond .eq 21, 3) := by decide +kernel
theorem dX11_heldIn_22 : decode cX11_heldIn 22 = .ok (.iload_n 1, 1) := by decide +kernel
theorem dX11_heldIn_23 : decode cX11_heldIn 23 = .ok (.ifCond .lt 13, 3) := by decide +kernel
theorem dX11_heldIn_26 : decode cX11_heldIn 26 = .ok (.aload_n 0, 1) := by decide +kernel
theorem dX11_heldIn_27 : decode cX11_heldIn 27 = .ok (.getfield 108, 3) := by decide +kernel
theorem dX11_heldIn_30 : decode cX11_heldIn 30 = .ok (.iload_n 3, 1) := by decide +kernel
theorem dX11_heldIn_31 : decode cX11_heldIn 31 = .ok (.iaload, 1) := by decide +kernel
theorem dX11_heldIn_32 : decode cX11_heldIn 32 = .ok (.iload_n 1, 1) := by decide +kernel
theorem dX11_heldIn_33 : decode cX11_heldIn 33 = .ok (.if_icmp .ne 7, 3) := by decide +kernel
theorem dX11_heldIn_36 : decode cX11_heldIn 36 = .ok (.iconst 1, 1) := by decide +kernel
theorem dX11_heldIn_37 : decode cX11_heldIn 37 = .ok (.goto 4, 3) := by decide +kernel
theorem dX11_heldIn_40 : decode cX11_heldIn 40 = .ok (.iconst 0, 1) := by decide +kernel
theorem dX11_heldIn_41 : decode cX11_heldIn 41 = .ok (.iadd, 1) := by decide +kernel
theorem dX11_heldIn_42 : decode cX11_heldIn 42 = .ok (.istore_n 2, 1) := by decide +kernel
theorem dX11_heldIn_43 : decode cX11_heldIn 43 = .ok (.iinc 3 1, 3) := by decide +kernel
theorem dX11_heldIn_46 : decode cX11_heldIn 46 = .ok (.goto (-42), 3) := by decide +kernel
theorem dX11_heldIn_49 : decode cX11_heldIn 49 = .ok (.iload_n 2, 1) := by decide +kernel
theorem dX11_heldIn_50 : decode cX11_heldIn 50 = .ok (.ireturn, 1) := by decide +kernel
theorem dX11_noted_0 : decode cX11_noted 0 = .ok (.iload 4, 2) := by decide +kernel
theorem dX11_noted_2 : decode cX11_noted 2 = .ok (.ifCond .lt 30, 3) := by decide +kernel
theorem dX11_noted_5 : decode cX11_noted 5 = .ok (.iload 4, 2) := by decide +kernel
theorem dX11_noted_7 : decode cX11_noted 7 = .ok (.iload_n 2, 1) := by decide +kernel
theorem dX11_noted_8 : decode cX11_noted 8 = .ok (.if_icmp .ge 24, 3) := by decide +kernel
theorem dX11_noted_11 : decode cX11_noted 11 = .ok (.iload 4, 2) := by decide +kernel
theorem dX11_noted_13 : decode cX11_noted 13 = .ok (.iload_n 3, 1) := by decide +kernel
theorem dX11_noted_14 : decode cX11_noted 14 = .ok (.if_icmp .ge 18, 3) := by decide +kernel
theorem dX11_noted_17 : decode cX11_noted 17 = .ok (.iload 5, 2) := by decide +kernel
theorem dX11_noted_19 : decode cX11_noted 19 = .ok (.ifCond .lt 13, 3) := by decide +kernel
theorem dX11_noted_22 : decode cX11_noted 22 = .ok (.iload 5, 2) := by decide +kernel
theorem dX11_noted_24 : decode cX11_noted 24 = .ok (.iconst 3, 1) := by decide +kernel
theorem dX11_noted_25 : decode cX11_noted 25 = .ok (.if_icmp .gt 7, 3) := by decide +kernel
theorem dX11_noted_28 : decode cX11_noted 28 = .ok (.iconst 1, 1) := by decide +kernel
theorem dX11_noted_29 : decode cX11_noted 29 = .ok (.goto 4, 3) := by decide +kernel
theorem dX11_noted_32 : decode cX11_noted 32 = .ok (.iconst 0, 1) := by decide +kernel
theorem dX11_noted_33 : decode cX11_noted 33 = .ok (.istore 6, 2) := by decide +kernel
theorem dX11_noted_35 : decode cX11_noted 35 = .ok (.aload_n 0, 1) := by decide +kernel
theorem dX11_noted_36 : decode cX11_noted 36 = .ok (.iload 6, 2) := by decide +kernel
theorem dX11_noted_38 : decode cX11_noted 38 = .ok (.ifCond .eq 7, 3) := by decide +kernel
theorem dX11_noted_41 : decode cX11_noted 41 = .ok (.iconst 0, 1) := by decide +kernel
theorem dX11_noted_42 : decode cX11_noted 42 = .ok (.goto 4, 3) := by decide +kernel
theorem dX11_noted_45 : decode cX11_noted 45 = .ok (.iconst 1, 1) := by decide +kernel
theorem dX11_noted_46 : decode cX11_noted 46 = .ok (.putfield 123, 3) := by decide +kernel
theorem dX11_noted_49 : decode cX11_noted 49 = .ok (.iload 6, 2) := by decide +kernel
theorem dX11_noted_51 : decode cX11_noted 51 = .ok (.ifCond .eq 15, 3) := by decide +kernel
theorem dX11_noted_54 : decode cX11_noted 54 = .ok (.aload_n 1, 1) := by decide +kernel
theorem dX11_noted_55 : decode cX11_noted 55 = .ok (.iconst 4, 1) := by decide +kernel
theorem dX11_noted_56 : decode cX11_noted 56 = .ok (.iload 4, 2) := by decide +kernel
theorem dX11_noted_58 : decode cX11_noted 58 = .ok (.imul, 1) := by decide +kernel
theorem dX11_noted_59 : decode cX11_noted 59 = .ok (.iload 5, 2) := by decide +kernel
theorem dX11_noted_61 : decode cX11_noted 61 = .ok (.iadd, 1) := by decide +kernel
theorem dX11_noted_62 : decode cX11_noted 62 = .ok (.laload, 1) := by decide +kernel
theorem dX11_noted_63 : decode cX11_noted 63 = .ok (.goto 4, 3) := by decide +kernel
theorem dX11_noted_66 : decode cX11_noted 66 = .ok (.lconst 0, 1) := by decide +kernel
theorem dX11_noted_67 : decode cX11_noted 67 = .ok (.lreturn, 1) := by decide +kernel
theorem dX11_out_0 : decode cX11_out 0 = .ok (.aload_n 0, 1) := by decide +kernel
theorem dX11_out_1 : decode cX11_out 1 = .ok (.aload_n 0, 1) := by decide +kernel
theorem dX11_out_2 : decode cX11_out 2 = .ok (.getfield 78, 3) := by decide +kernel
theorem dX11_out_5 : decode cX11_out 5 = .ok (.aload_n 0, 1) := by decide +kernel
theorem dX11_out_6 : decode cX11_out 6 = .ok (.getfield 283, 3) := by decide +kernel
theorem dX11_out_9 : decode cX11_out 9 = .ok (.sipush 300, 3) := by decide +kernel
theorem dX11_out_12 : decode cX11_out 12 = .ok (.iload_n 1, 1) := by decide +kernel
theorem dX11_out_13 : decode cX11_out 13 = .ok (.iload_n 2, 1) := by decide +kernel
theorem dX11_out_14 : decode cX11_out 14 = .ok (.invokevirtual 404, 3) := by decide +kernel
theorem dX11_out_17 : decode cX11_out 17 = .ok (.lreturn, 1) := by decide +kernel
theorem dX11_late__0 : decode cX11_late_ 0 = .ok (.aload_n 0, 1) := by decide +kernel
theorem dX11_late__1 : decode cX11_late_ 1 = .ok (.aload_n 0, 1) := by decide +kernel
theorem dX11_late__2 : decode cX11_late_ 2 = .ok (.getfield 81, 3) := by decide +kernel
theorem dX11_late__5 : decode cX11_late_ 5 = .ok (.aload_n 0, 1) := by decide +kernel
theorem dX11_late__6 : decode cX11_late_ 6 = .ok (.getfield 286, 3) := by decide +kernel
theorem dX11_late__9 : decode cX11_late_ 9 = .ok (.sipush 200, 3) := by decide +kernel
theorem dX11_late__12 : decode cX11_late_ 12 = .ok (.iload_n 1, 1) := by decide +kernel
theorem dX11_late__13 : decode cX11_late_ 13 = .ok (.iload_n 2, 1) := by decide +kernel
theorem dX11_late__14 : decode cX11_late_ 14 = .ok (.invokevirtual 404, 3) := by decide +kernel
theorem dX11_late__17 : decode cX11_late_ 17 = .ok (.lreturn, 1) := by decide +kernel
theorem dX11_partsThat_0 : decode cX11_partsThat 0 = .ok (.iconst 0, 1) := by decide +kernel
theorem dX11_partsThat_1 : decode cX11_partsThat 1 = .ok (.istore_n 2, 1) := by decide +kernel
theorem dX11_partsThat_2 : decode cX11_partsThat 2 = .ok (.iconst 0, 1) := by decide +kernel
theorem dX11_partsThat_3 : decode cX11_partsThat 3 = .ok (.istore_n 3, 1) := by decide +kernel
theorem dX11_partsThat_4 : decode cX11_partsThat 4 = .ok (.iload_n 3, 1) := by decide +kernel
theorem dX11_partsThat_5 : decode cX11_partsThat 5 = .ok (.aload_n 0, 1) := by decide +kernel
theorem dX11_partsThat_6 : decode cX11_partsThat 6 = .ok (.getfield 60, 3) := by decide +kernel
theorem dX11_partsThat_9 : decode cX11_partsThat 9 = .ok (.iconst 1, 1) := by decide +kernel
theorem dX11_partsThat_10 : decode cX11_partsThat 10 = .ok (.iaload, 1) := by decide +kernel
theorem dX11_partsThat_11 : decode cX11_partsThat 11 = .ok (.if_icmp .ge 85, 3) := by decide +kernel
theorem dX11_partsThat_14 : decode cX11_partsThat 14 = .ok (.iconst 0, 1) := by decide +kernel
theorem dX11_partsThat_15 : decode cX11_partsThat 15 = .ok (.istore 4, 2) := by decide +kernel
theorem dX11_partsThat_17 : decode cX11_partsThat 17 = .ok (.iload 4, 2) := by decide +kernel
theorem dX11_partsThat_19 : decode cX11_partsThat 19 = .ok (.aload_n 0, 1) := by decide +kernel
theorem dX11_partsThat_20 : decode cX11_partsThat 20 = .ok (.getfield 26, 3) := by decide +kernel
theorem dX11_partsThat_23 : decode cX11_partsThat 23 = .ok (.bipush 12, 2) := by decide +kernel
theorem dX11_partsThat_25 : decode cX11_partsThat 25 = .ok (.iload_n 3, 1) := by decide +kernel
theorem dX11_partsThat_26 : decode cX11_partsThat 26 = .ok (.iadd, 1) := by decide +kernel
theorem dX11_partsThat_27 : decode cX11_partsThat 27 = .ok (.iaload, 1) := by decide +kernel
theorem dX11_partsThat_28 : decode cX11_partsThat 28 = .ok (.if_icmp .ge 62, 3) := by decide +kernel
theorem dX11_partsThat_31 : decode cX11_partsThat 31 = .ok (.aload_n 0, 1) := by decide +kernel
theorem dX11_partsThat_32 : decode cX11_partsThat 32 = .ok (.iload_n 3, 1) := by decide +kernel
theorem dX11_partsThat_33 : decode cX11_partsThat 33 = .ok (.invokevirtual 308, 3) := by decide +kernel
theorem dX11_partsThat_36 : decode cX11_partsThat 36 = .ok (.ifCond .ne 54, 3) := by decide +kernel
theorem dX11_partsThat_39 : decode cX11_partsThat 39 = .ok (.iload_n 2, 1) := by decide +kernel
theorem dX11_partsThat_40 : decode cX11_partsThat 40 = .ok (.iload_n 1, 1) := by decide +kernel
theorem dX11_partsThat_41 : decode cX11_partsThat 41 = .ok (.ifCond .eq 21, 3) := by decide +kernel
theorem dX11_partsThat_44 : decode cX11_partsThat 44 = .ok (.aload_n 0, 1) := by decide +kernel
theorem dX11_partsThat_45 : decode cX11_partsThat 45 = .ok (.iload_n 3, 1) := by decide +kernel
theorem dX11_partsThat_46 : decode cX11_partsThat 46 = .ok (.iload 4, 2) := by decide +kernel
theorem dX11_partsThat_48 : decode cX11_partsThat 48 = .ok (.invokevirtual 389, 3) := by decide +kernel
theorem dX11_partsThat_51 : decode cX11_partsThat 51 = .ok (.ifCond .eq 7, 3) := by decide +kernel
theorem dX11_partsThat_54 : decode cX11_partsThat 54 = .ok (.iconst 1, 1) := by decide +kernel
theorem dX11_partsThat_55 : decode cX11_partsThat 55 = .ok (.goto 27, 3) := by decide +kernel
theorem dX11_partsThat_58 : decode cX11_partsThat 58 = .ok (.iconst 0, 1) := by decide +kernel
theorem dX11_partsThat_59 : decode cX11_partsThat 59 = .ok (.goto 23, 3) := by decide +kernel
theorem dX11_partsThat_62 : decode cX11_partsThat 62 = .ok (.aload_n 0, 1) := by decide +kernel
theorem dX11_partsThat_63 : decode cX11_partsThat 63 = .ok (.getfield 69, 3) := by decide +kernel
theorem dX11_partsThat_66 : decode cX11_partsThat 66 = .ok (.iconst 4, 1) := by decide +kernel
theorem dX11_partsThat_67 : decode cX11_partsThat 67 = .ok (.iload_n 3, 1) := by decide +kernel
theorem dX11_partsThat_68 : decode cX11_partsThat 68 = .ok (.imul, 1) := by decide +kernel
theorem dX11_partsThat_69 : decode cX11_partsThat 69 = .ok (.iload 4, 2) := by decide +kernel
theorem dX11_partsThat_71 : decode cX11_partsThat 71 = .ok (.iadd, 1) := by decide +kernel
theorem dX11_partsThat_72 : decode cX11_partsThat 72 = .ok (.iaload, 1) := by decide +kernel
theorem dX11_partsThat_73 : decode cX11_partsThat 73 = .ok (.iconst 1, 1) := by decide +kernel
theorem dX11_partsThat_74 : decode cX11_partsThat 74 = .ok (.if_icmp .ne 7, 3) := by decide +kernel
theorem dX11_partsThat_77 : decode cX11_partsThat 77 = .ok (.iconst 1, 1) := by decide +kernel
theorem dX11_partsThat_78 : decode cX11_partsThat 78 = .ok (.goto 4, 3) := by decide +kernel
theorem dX11_partsThat_81 : decode cX11_partsThat 81 = .ok (.iconst 0, 1) := by decide +kernel
theorem dX11_partsThat_82 : decode cX11_partsThat 82 = .ok (.iadd, 1) := by decide +kernel
theorem dX11_partsThat_83 : decode cX11_partsThat 83 = .ok (.istore_n 2, 1) := by decide +kernel
theorem dX11_partsThat_84 : decode cX11_partsThat 84 = .ok (.iinc 4 1, 3) := by decide +kernel
theorem dX11_partsThat_87 : decode cX11_partsThat 87 = .ok (.goto (-70), 3) := by decide +kernel
theorem dX11_partsThat_90 : decode cX11_partsThat 90 = .ok (.iinc 3 1, 3) := by decide +kernel
theorem dX11_partsThat_93 : decode cX11_partsThat 93 = .ok (.goto (-89), 3) := by decide +kernel
theorem dX11_partsThat_96 : decode cX11_partsThat 96 = .ok (.iload_n 2, 1) := by decide +kernel
theorem dX11_partsThat_97 : decode cX11_partsThat 97 = .ok (.ireturn, 1) := by decide +kernel
theorem dX11_told_0 : decode cX11_told 0 = .ok (.aload_n 0, 1) := by decide +kernel
theorem dX11_told_1 : decode cX11_told 1 = .ok (.iconst 0, 1) := by decide +kernel
theorem dX11_told_2 : decode cX11_told 2 = .ok (.putfield 123, 3) := by decide +kernel
theorem dX11_told_5 : decode cX11_told 5 = .ok (.iload_n 1, 1) := by decide +kernel
theorem dX11_told_6 : decode cX11_told 6 = .ok (.tableswitch 100 0 8 #[50, 57, 62, 67, 72, 77, 83, 89, 95], 50) := by decide +kernel
theorem dX11_told_56 : decode cX11_told 56 = .ok (.aload_n 0, 1) := by decide +kernel
theorem dX11_told_57 : decode cX11_told 57 = .ok (.getfield 60, 3) := by decide +kernel
theorem dX11_told_60 : decode cX11_told 60 = .ok (.iconst 1, 1) := by decide +kernel
theorem dX11_told_61 : decode cX11_told 61 = .ok (.iaload, 1) := by decide +kernel
theorem dX11_told_62 : decode cX11_told 62 = .ok (.ireturn, 1) := by decide +kernel
theorem dX11_told_63 : decode cX11_told 63 = .ok (.aload_n 0, 1) := by decide +kernel
theorem dX11_told_64 : decode cX11_told 64 = .ok (.getfield 292, 3) := by decide +kernel
theorem dX11_told_67 : decode cX11_told 67 = .ok (.ireturn, 1) := by decide +kernel
theorem dX11_told_68 : decode cX11_told 68 = .ok (.aload_n 0, 1) := by decide +kernel
theorem dX11_told_69 : decode cX11_told 69 = .ok (.getfield 283, 3) := by decide +kernel
theorem dX11_told_72 : decode cX11_told 72 = .ok (.ireturn, 1) := by decide +kernel
theorem dX11_told_73 : decode cX11_told 73 = .ok (.aload_n 0, 1) := by decide +kernel
theorem dX11_told_74 : decode cX11_told 74 = .ok (.getfield 286, 3) := by decide +kernel
theorem dX11_told_77 : decode cX11_told 77 = .ok (.ireturn, 1) := by decide +kernel
theorem dX11_told_78 : decode cX11_told 78 = .ok (.aload_n 0, 1) := by decide +kernel
theorem dX11_told_79 : decode cX11_told 79 = .ok (.getfield 289, 3) := by decide +kernel
theorem dX11_told_82 : decode cX11_told 82 = .ok (.ireturn, 1) := by decide +kernel
theorem dX11_told_83 : decode cX11_told 83 = .ok (.aload_n 0, 1) := by decide +kernel
theorem dX11_told_84 : decode cX11_told 84 = .ok (.iconst (-1), 1) := by decide +kernel
theorem dX11_told_85 : decode cX11_told 85 = .ok (.invokevirtual 401, 3) := by decide +kernel
theorem dX11_told_88 : decode cX11_told 88 = .ok (.ireturn, 1) := by decide +kernel
theorem dX11_told_89 : decode cX11_told 89 = .ok (.aload_n 0, 1) := by decide +kernel
theorem dX11_told_90 : decode cX11_told 90 = .ok (.iconst 0, 1) := by decide +kernel
theorem dX11_told_91 : decode cX11_told 91 = .ok (.invokevirtual 408, 3) := by decide +kernel
theorem dX11_told_94 : decode cX11_told 94 = .ok (.ireturn, 1) := by decide +kernel
theorem dX11_told_95 : decode cX11_told 95 = .ok (.aload_n 0, 1) := by decide +kernel
theorem dX11_told_96 : decode cX11_told 96 = .ok (.iconst 1, 1) := by decide +kernel
theorem dX11_told_97 : decode cX11_told 97 = .ok (.invokevirtual 408, 3) := by decide +kernel
theorem dX11_told_100 : decode cX11_told 100 = .ok (.ireturn, 1) := by decide +kernel
theorem dX11_told_101 : decode cX11_told 101 = .ok (.aload_n 0, 1) := by decide +kernel
theorem dX11_told_102 : decode cX11_told 102 = .ok (.getfield 127, 3) := by decide +kernel
theorem dX11_told_105 : decode cX11_told 105 = .ok (.ireturn, 1) := by decide +kernel
theorem dX11_told_106 : decode cX11_told 106 = .ok (.iconst (-1), 1) := by decide +kernel
theorem dX11_told_107 : decode cX11_told 107 = .ok (.ireturn, 1) := by decide +kernel
theorem dX11_say_0 : decode cX11_say 0 = .ok (.aload_n 0, 1) := by decide +kernel
theorem dX11_say_1 : decode cX11_say 1 = .ok (.getfield 120, 3) := by decide +kernel
theorem dX11_say_4 : decode cX11_say 4 = .ok (.aload_n 0, 1) := by decide +kernel
theorem dX11_say_5 : decode cX11_say 5 = .ok (.getfield 412, 3) := by decide +kernel
theorem dX11_say_8 : decode cX11_say 8 = .ok (.iload_n 1, 1) := by decide +kernel
theorem dX11_say_9 : decode cX11_say 9 = .ok (.i2b, 1) := by decide +kernel
theorem dX11_say_10 : decode cX11_say 10 = .ok (.bastore, 1) := by decide +kernel
theorem dX11_say_11 : decode cX11_say 11 = .ok (.aload_n 0, 1) := by decide +kernel
theorem dX11_say_12 : decode cX11_say 12 = .ok (.dup, 1) := by decide +kernel
theorem dX11_say_13 : decode cX11_say 13 = .ok (.getfield 412, 3) := by decide +kernel
theorem dX11_say_16 : decode cX11_say 16 = .ok (.iconst 1, 1) := by decide +kernel
theorem dX11_say_17 : decode cX11_say 17 = .ok (.iadd, 1) := by decide +kernel
theorem dX11_say_18 : decode cX11_say 18 = .ok (.putfield 412, 3) := by decide +kernel
theorem dX11_say_21 : decode cX11_say 21 = .ok (.return_, 1) := by decide +kernel
theorem dX11_sayAll_0 : decode cX11_sayAll 0 = .ok (.iconst 0, 1) := by decide +kernel
theorem dX11_sayAll_1 : decode cX11_sayAll 1 = .ok (.istore_n 2, 1) := by decide +kernel
theorem dX11_sayAll_2 : decode cX11_sayAll 2 = .ok (.iload_n 2, 1) := by decide +kernel
theorem dX11_sayAll_3 : decode cX11_sayAll 3 = .ok (.aload_n 1, 1) := by decide +kernel
theorem dX11_sayAll_4 : decode cX11_sayAll 4 = .ok (.invokevirtual 167, 3) := by decide +kernel
theorem dX11_sayAll_7 : decode cX11_sayAll 7 = .ok (.if_icmp .ge 18, 3) := by decide +kernel
theorem dX11_sayAll_10 : decode cX11_sayAll 10 = .ok (.aload_n 0, 1) := by decide +kernel
theorem dX11_sayAll_11 : decode cX11_sayAll 11 = .ok (.aload_n 1, 1) := by decide +kernel
theorem dX11_sayAll_12 : decode cX11_sayAll 12 = .ok (.iload_n 2, 1) := by decide +kernel
theorem dX11_sayAll_13 : decode cX11_sayAll 13 = .ok (.invokevirtual 177, 3) := by decide +kernel
theorem dX11_sayAll_16 : decode cX11_sayAll 16 = .ok (.invokevirtual 415, 3) := by decide +kernel
theorem dX11_sayAll_19 : decode cX11_sayAll 19 = .ok (.iinc 2 1, 3) := by decide +kernel
theorem dX11_sayAll_22 : decode cX11_sayAll 22 = .ok (.goto (-20), 3) := by decide +kernel
theorem dX11_sayAll_25 : decode cX11_sayAll 25 = .ok (.return_, 1) := by decide +kernel
theorem dX11_sayNumber_0 : decode cX11_sayNumber 0 = .ok (.lload_n 1, 1) := by decide +kernel
theorem dX11_sayNumber_1 : decode cX11_sayNumber 1 = .ok (.lconst 0, 1) := by decide +kernel
theorem dX11_sayNumber_2 : decode cX11_sayNumber 2 = .ok (.lcmp, 1) := by decide +kernel
theorem dX11_sayNumber_3 : decode cX11_sayNumber 3 = .ok (.ifCond .ge 9, 3) := by decide +kernel
theorem dX11_sayNumber_6 : decode cX11_sayNumber 6 = .ok (.aload_n 0, 1) := by decide +kernel
theorem dX11_sayNumber_7 : decode cX11_sayNumber 7 = .ok (.bipush 45, 2) := by decide +kernel
theorem dX11_sayNumber_9 : decode cX11_sayNumber 9 = .ok (.invokevirtual 415, 3) := by decide +kernel
theorem dX11_sayNumber_12 : decode cX11_sayNumber 12 = .ok (.lload_n 1, 1) := by decide +kernel
theorem dX11_sayNumber_13 : decode cX11_sayNumber 13 = .ok (.lconst 0, 1) := by decide +kernel
theorem dX11_sayNumber_14 : decode cX11_sayNumber 14 = .ok (.lcmp, 1) := by decide +kernel
theorem dX11_sayNumber_15 : decode cX11_sayNumber 15 = .ok (.ifCond .ge 8, 3) := by decide +kernel
theorem dX11_sayNumber_18 : decode cX11_sayNumber 18 = .ok (.lload_n 1, 1) := by decide +kernel
theorem dX11_sayNumber_19 : decode cX11_sayNumber 19 = .ok (.lneg, 1) := by decide +kernel
theorem dX11_sayNumber_20 : decode cX11_sayNumber 20 = .ok (.goto 4, 3) := by decide +kernel
theorem dX11_sayNumber_23 : decode cX11_sayNumber 23 = .ok (.lload_n 1, 1) := by decide +kernel
theorem dX11_sayNumber_24 : decode cX11_sayNumber 24 = .ok (.lstore_n 3, 1) := by decide +kernel
theorem dX11_sayNumber_25 : decode cX11_sayNumber 25 = .ok (.lconst 1, 1) := by decide +kernel
theorem dX11_sayNumber_26 : decode cX11_sayNumber 26 = .ok (.lstore 5, 2) := by decide +kernel
theorem dX11_sayNumber_28 : decode cX11_sayNumber 28 = .ok (.lload_n 3, 1) := by decide +kernel
theorem dX11_sayNumber_29 : decode cX11_sayNumber 29 = .ok (.lload 5, 2) := by decide +kernel
theorem dX11_sayNumber_31 : decode cX11_sayNumber 31 = .ok (.ldiv, 1) := by decide +kernel
theorem dX11_sayNumber_32 : decode cX11_sayNumber 32 = .ok (.ldc2_w 418, 3) := by decide +kernel
theorem dX11_sayNumber_35 : decode cX11_sayNumber 35 = .ok (.lcmp, 1) := by decide +kernel
theorem dX11_sayNumber_36 : decode cX11_sayNumber 36 = .ok (.ifCond .le 14, 3) := by decide +kernel
theorem dX11_sayNumber_39 : decode cX11_sayNumber 39 = .ok (.lload 5, 2) := by decide +kernel
theorem dX11_sayNumber_41 : decode cX11_sayNumber 41 = .ok (.ldc2_w 161, 3) := by decide +kernel
theorem dX11_sayNumber_44 : decode cX11_sayNumber 44 = .ok (.lmul, 1) := by decide +kernel
theorem dX11_sayNumber_45 : decode cX11_sayNumber 45 = .ok (.lstore 5, 2) := by decide +kernel
theorem dX11_sayNumber_47 : decode cX11_sayNumber 47 = .ok (.goto (-19), 3) := by decide +kernel
theorem dX11_sayNumber_50 : decode cX11_sayNumber 50 = .ok (.lload 5, 2) := by decide +kernel
theorem dX11_sayNumber_52 : decode cX11_sayNumber 52 = .ok (.lconst 0, 1) := by decide +kernel
theorem dX11_sayNumber_53 : decode cX11_sayNumber 53 = .ok (.lcmp, 1) := by decide +kernel
theorem dX11_sayNumber_54 : decode cX11_sayNumber 54 = .ok (.ifCond .le 31, 3) := by decide +kernel
theorem dX11_sayNumber_57 : decode cX11_sayNumber 57 = .ok (.aload_n 0, 1) := by decide +kernel
theorem dX11_sayNumber_58 : decode cX11_sayNumber 58 = .ok (.ldc2_w 163, 3) := by decide +kernel
theorem dX11_sayNumber_61 : decode cX11_sayNumber 61 = .ok (.lload_n 3, 1) := by decide +kernel
theorem dX11_sayNumber_62 : decode cX11_sayNumber 62 = .ok (.lload 5, 2) := by decide +kernel
theorem dX11_sayNumber_64 : decode cX11_sayNumber 64 = .ok (.ldiv, 1) := by decide +kernel
theorem dX11_sayNumber_65 : decode cX11_sayNumber 65 = .ok (.ldc2_w 161, 3) := by decide +kernel
theorem dX11_sayNumber_68 : decode cX11_sayNumber 68 = .ok (.lrem, 1) := by decide +kernel
theorem dX11_sayNumber_69 : decode cX11_sayNumber 69 = .ok (.ladd, 1) := by decide +kernel
theorem dX11_sayNumber_70 : decode cX11_sayNumber 70 = .ok (.l2i, 1) := by decide +kernel
theorem dX11_sayNumber_71 : decode cX11_sayNumber 71 = .ok (.invokevirtual 415, 3) := by decide +kernel
theorem dX11_sayNumber_74 : decode cX11_sayNumber 74 = .ok (.lload 5, 2) := by decide +kernel
theorem dX11_sayNumber_76 : decode cX11_sayNumber 76 = .ok (.ldc2_w 161, 3) := by decide +kernel
theorem dX11_sayNumber_79 : decode cX11_sayNumber 79 = .ok (.ldiv, 1) := by decide +kernel
theorem dX11_sayNumber_80 : decode cX11_sayNumber 80 = .ok (.lstore 5, 2) := by decide +kernel
theorem dX11_sayNumber_82 : decode cX11_sayNumber 82 = .ok (.goto (-32), 3) := by decide +kernel
theorem dX11_sayNumber_85 : decode cX11_sayNumber 85 = .ok (.return_, 1) := by decide +kernel
theorem dX11_wordOf_0 : decode cX11_wordOf 0 = .ok (.iload_n 0, 1) := by decide +kernel
theorem dX11_wordOf_1 : decode cX11_wordOf 1 = .ok (.ifCond .ne 9, 3) := by decide +kernel
theorem dX11_wordOf_4 : decode cX11_wordOf 4 = .ok (.ldc_w 420, 3) := by decide +kernel
theorem dX11_wordOf_7 : decode cX11_wordOf 7 = .ok (.goto 50, 3) := by decide +kernel
theorem dX11_wordOf_10 : decode cX11_wordOf 10 = .ok (.iload_n 0, 1) := by decide +kernel
theorem dX11_wordOf_11 : decode cX11_wordOf 11 = .ok (.iconst 1, 1) := by decide +kernel
theorem dX11_wordOf_12 : decode cX11_wordOf 12 = .ok (.if_icmp .ne 9, 3) := by decide +kernel
theorem dX11_wordOf_15 : decode cX11_wordOf 15 = .ok (.ldc_w 421, 3) := by decide +kernel
theorem dX11_wordOf_18 : decode cX11_wordOf 18 = .ok (.goto 39, 3) := by decide +kernel
theorem dX11_wordOf_21 : decode cX11_wordOf 21 = .ok (.iload_n 0, 1) := by decide +kernel
theorem dX11_wordOf_22 : decode cX11_wordOf 22 = .ok (.iconst 2, 1) := by decide +kernel
theorem dX11_wordOf_23 : decode cX11_wordOf 23 = .ok (.if_icmp .ne 9, 3) := by decide +kernel
theorem dX11_wordOf_26 : decode cX11_wordOf 26 = .ok (.ldc_w 423, 3) := by decide +kernel
theorem dX11_wordOf_29 : decode cX11_wordOf 29 = .ok (.goto 28, 3) := by decide +kernel
theorem dX11_wordOf_32 : decode cX11_wordOf 32 = .ok (.iload_n 0, 1) := by decide +kernel
theorem dX11_wordOf_33 : decode cX11_wordOf 33 = .ok (.iconst 3, 1) := by decide +kernel
theorem dX11_wordOf_34 : decode cX11_wordOf 34 = .ok (.if_icmp .ne 9, 3) := by decide +kernel
theorem dX11_wordOf_37 : decode cX11_wordOf 37 = .ok (.ldc_w 425, 3) := by decide +kernel
theorem dX11_wordOf_40 : decode cX11_wordOf 40 = .ok (.goto 17, 3) := by decide +kernel
theorem dX11_wordOf_43 : decode cX11_wordOf 43 = .ok (.iload_n 0, 1) := by decide +kernel
theorem dX11_wordOf_44 : decode cX11_wordOf 44 = .ok (.iconst 4, 1) := by decide +kernel
theorem dX11_wordOf_45 : decode cX11_wordOf 45 = .ok (.if_icmp .ne 9, 3) := by decide +kernel
theorem dX11_wordOf_48 : decode cX11_wordOf 48 = .ok (.ldc_w 427, 3) := by decide +kernel
theorem dX11_wordOf_51 : decode cX11_wordOf 51 = .ok (.goto 6, 3) := by decide +kernel
theorem dX11_wordOf_54 : decode cX11_wordOf 54 = .ok (.ldc_w 428, 3) := by decide +kernel
theorem dX11_wordOf_57 : decode cX11_wordOf 57 = .ok (.areturn, 1) := by decide +kernel
theorem dX11_print_0 : decode cX11_print 0 = .ok (.aload_n 0, 1) := by decide +kernel
theorem dX11_print_1 : decode cX11_print 1 = .ok (.iconst 0, 1) := by decide +kernel
theorem dX11_print_2 : decode cX11_print 2 = .ok (.putfield 123, 3) := by decide +kernel
theorem dX11_print_5 : decode cX11_print 5 = .ok (.aload_n 0, 1) := by decide +kernel
theorem dX11_print_6 : decode cX11_print 6 = .ok (.getfield 277, 3) := by decide +kernel
theorem dX11_print_9 : decode cX11_print 9 = .ok (.ifCond .ne 5, 3) := by decide +kernel
theorem dX11_print_12 : decode cX11_print 12 = .ok (.iconst (-1), 1) := by decide +kernel
theorem dX11_print_13 : decode cX11_print 13 = .ok (.ireturn, 1) := by decide +kernel
theorem dX11_print_14 : decode cX11_print 14 = .ok (.aload_n 0, 1) := by decide +kernel
theorem dX11_print_15 : decode cX11_print 15 = .ok (.iconst 0, 1) := by decide +kernel
theorem dX11_print_16 : decode cX11_print 16 = .ok (.putfield 412, 3) := by decide +kernel
theorem dX11_print_19 : decode cX11_print 19 = .ok (.iconst 0, 1) := by decide +kernel
theorem dX11_print_20 : decode cX11_print 20 = .ok (.istore_n 1, 1) := by decide +kernel
theorem dX11_print_21 : decode cX11_print 21 = .ok (.iload_n 1, 1) := by decide +kernel
theorem dX11_print_22 : decode cX11_print 22 = .ok (.aload_n 0, 1) := by decide +kernel
theorem dX11_print_23 : decode cX11_print 23 = .ok (.getfield 60, 3) := by decide +kernel
theorem dX11_print_26 : decode cX11_print 26 = .ok (.iconst 1, 1) := by decide +kernel
theorem dX11_print_27 : decode cX11_print 27 = .ok (.iaload, 1) := by decide +kernel
theorem dX11_print_28 : decode cX11_print 28 = .ok (.if_icmp .ge 216, 3) := by decide +kernel
theorem dX11_print_31 : decode cX11_print 31 = .ok (.aload_n 0, 1) := by decide +kernel
theorem dX11_print_32 : decode cX11_print 32 = .ok (.iload_n 1, 1) := by decide +kernel
theorem dX11_print_33 : decode cX11_print 33 = .ok (.i2l, 1) := by decide +kernel
theorem dX11_print_34 : decode cX11_print 34 = .ok (.invokevirtual 429, 3) := by decide +kernel
theorem dX11_print_37 : decode cX11_print 37 = .ok (.aload_n 0, 1) := by decide +kernel
theorem dX11_print_38 : decode cX11_print 38 = .ok (.bipush 32, 2) := by decide +kernel
theorem dX11_print_40 : decode cX11_print 40 = .ok (.invokevirtual 415, 3) := by decide +kernel
theorem dX11_print_43 : decode cX11_print 43 = .ok (.aload_n 0, 1) := by decide +kernel
theorem dX11_print_44 : decode cX11_print 44 = .ok (.getfield 23, 3) := by decide +kernel
theorem dX11_print_47 : decode cX11_print 47 = .ok (.bipush 12, 2) := by decide +kernel
theorem dX11_print_49 : decode cX11_print 49 = .ok (.iload_n 1, 1) := by decide +kernel
theorem dX11_print_50 : decode cX11_print 50 = .ok (.iadd, 1) := by decide +kernel
theorem dX11_print_51 : decode cX11_print 51 = .ok (.iaload, 1) := by decide +kernel
theorem dX11_print_52 : decode cX11_print 52 = .ok (.iconst 1, 1) := by decide +kernel
theorem dX11_print_53 : decode cX11_print 53 = .ok (.isub, 1) := by decide +kernel
theorem dX11_print_54 : decode cX11_print 54 = .ok (.istore_n 2, 1) := by decide +kernel
theorem dX11_print_55 : decode cX11_print 55 = .ok (.iload_n 2, 1) := by decide +kernel
theorem dX11_print_56 : decode cX11_print 56 = .ok (.ifCond .lt 36, 3) := by decide +kernel
theorem dX11_print_59 : decode cX11_print 59 = .ok (.aload_n 0, 1) := by decide +kernel
theorem dX11_print_60 : decode cX11_print 60 = .ok (.aload_n 0, 1) := by decide +kernel
theorem dX11_print_61 : decode cX11_print 61 = .ok (.getfield 19, 3) := by decide +kernel
theorem dX11_print_64 : decode cX11_print 64 = .ok (.bipush 12, 2) := by decide +kernel
theorem dX11_print_66 : decode cX11_print 66 = .ok (.iload_n 1, 1) := by decide +kernel
theorem dX11_print_67 : decode cX11_print 67 = .ok (.iadd, 1) := by decide +kernel
theorem dX11_print_68 : decode cX11_print 68 = .ok (.laload, 1) := by decide +kernel
theorem dX11_print_69 : decode cX11_print 69 = .ok (.iconst 5, 1) := by decide +kernel
theorem dX11_print_70 : decode cX11_print 70 = .ok (.iload_n 2, 1) := by decide +kernel
theorem dX11_print_71 : decode cX11_print 71 = .ok (.imul, 1) := by decide +kernel
theorem dX11_print_72 : decode cX11_print 72 = .ok (.lshr, 1) := by decide +kernel
theorem dX11_print_73 : decode cX11_print 73 = .ok (.ldc2_w 432, 3) := by decide +kernel
theorem dX11_print_76 : decode cX11_print 76 = .ok (.land, 1) := by decide +kernel
theorem dX11_print_77 : decode cX11_print 77 = .ok (.l2i, 1) := by decide +kernel
theorem dX11_print_78 : decode cX11_print 78 = .ok (.bipush 97, 2) := by decide +kernel
theorem dX11_print_80 : decode cX11_print 80 = .ok (.iadd, 1) := by decide +kernel
theorem dX11_print_81 : decode cX11_print 81 = .ok (.iconst 1, 1) := by decide +kernel
theorem dX11_print_82 : decode cX11_print 82 = .ok (.isub, 1) := by decide +kernel
theorem dX11_print_83 : decode cX11_print 83 = .ok (.invokevirtual 415, 3) := by decide +kernel
theorem dX11_print_86 : decode cX11_print 86 = .ok (.iinc 2 (-1), 3) := by decide +kernel
theorem dX11_print_89 : decode cX11_print 89 = .ok (.goto (-34), 3) := by decide +kernel
theorem dX11_print_92 : decode cX11_print 92 = .ok (.aload_n 0, 1) := by decide +kernel
theorem dX11_print_93 : decode cX11_print 93 = .ok (.bipush 32, 2) := by decide +kernel
theorem dX11_print_95 : decode cX11_print 95 = .ok (.invokevirtual 415, 3) := by decide +kernel
theorem dX11_print_98 : decode cX11_print 98 = .ok (.aload_n 0, 1) := by decide +kernel
theorem dX11_print_99 : decode cX11_print 99 = .ok (.aload_n 0, 1) := by decide +kernel
theorem dX11_print_100 : decode cX11_print 100 = .ok (.iload_n 1, 1) := by decide +kernel
theorem dX11_print_101 : decode cX11_print 101 = .ok (.invokevirtual 308, 3) := by decide +kernel
theorem dX11_print_104 : decode cX11_print 104 = .ok (.invokestatic 434, 3) := by decide +kernel
theorem dX11_print_107 : decode cX11_print 107 = .ok (.invokevirtual 438, 3) := by decide +kernel
theorem dX11_print_110 : decode cX11_print 110 = .ok (.iconst 0, 1) := by decide +kernel
theorem dX11_print_111 : decode cX11_print 111 = .ok (.istore_n 2, 1) := by decide +kernel
theorem dX11_print_112 : decode cX11_print 112 = .ok (.iload_n 2, 1) := by decide +kernel
theorem dX11_print_113 : decode cX11_print 113 = .ok (.aload_n 0, 1) := by decide +kernel
theorem dX11_print_114 : decode cX11_print 114 = .ok (.getfield 45, 3) := by decide +kernel
theorem dX11_print_117 : decode cX11_print 117 = .ok (.bipush 12, 2) := by decide +kernel
theorem dX11_print_119 : decode cX11_print 119 = .ok (.iload_n 1, 1) := by decide +kernel
theorem dX11_print_120 : decode cX11_print 120 = .ok (.iadd, 1) := by decide +kernel
theorem dX11_print_121 : decode cX11_print 121 = .ok (.iaload, 1) := by decide +kernel
theorem dX11_print_122 : decode cX11_print 122 = .ok (.if_icmp .ge 26, 3) := by decide +kernel
theorem dX11_print_125 : decode cX11_print 125 = .ok (.aload_n 0, 1) := by decide +kernel
theorem dX11_print_126 : decode cX11_print 126 = .ok (.bipush 32, 2) := by decide +kernel
theorem dX11_print_128 : decode cX11_print 128 = .ok (.invokevirtual 415, 3) := by decide +kernel
theorem dX11_print_131 : decode cX11_print 131 = .ok (.aload_n 0, 1) := by decide +kernel
theorem dX11_print_132 : decode cX11_print 132 = .ok (.aload_n 0, 1) := by decide +kernel
theorem dX11_print_133 : decode cX11_print 133 = .ok (.iload_n 1, 1) := by decide +kernel
theorem dX11_print_134 : decode cX11_print 134 = .ok (.iload_n 2, 1) := by decide +kernel
theorem dX11_print_135 : decode cX11_print 135 = .ok (.invokevirtual 318, 3) := by decide +kernel
theorem dX11_print_138 : decode cX11_print 138 = .ok (.i2l, 1) := by decide +kernel
theorem dX11_print_139 : decode cX11_print 139 = .ok (.invokevirtual 429, 3) := by decide +kernel
theorem dX11_print_142 : decode cX11_print 142 = .ok (.iinc 2 1, 3) := by decide +kernel
theorem dX11_print_145 : decode cX11_print 145 = .ok (.goto (-33), 3) := by decide +kernel
theorem dX11_print_148 : decode cX11_print 148 = .ok (.aload_n 0, 1) := by decide +kernel
theorem dX11_print_149 : decode cX11_print 149 = .ok (.bipush 32, 2) := by decide +kernel
theorem dX11_print_151 : decode cX11_print 151 = .ok (.invokevirtual 415, 3) := by decide +kernel
theorem dX11_print_154 : decode cX11_print 154 = .ok (.aload_n 0, 1) := by decide +kernel
theorem dX11_print_155 : decode cX11_print 155 = .ok (.getfield 63, 3) := by decide +kernel
theorem dX11_print_158 : decode cX11_print 158 = .ok (.iload_n 1, 1) := by decide +kernel
theorem dX11_print_159 : decode cX11_print 159 = .ok (.laload, 1) := by decide +kernel
theorem dX11_print_160 : decode cX11_print 160 = .ok (.ldc2_w 281, 3) := by decide +kernel
theorem dX11_print_163 : decode cX11_print 163 = .ok (.lcmp, 1) := by decide +kernel
theorem dX11_print_164 : decode cX11_print 164 = .ok (.ifCond .ne 13, 3) := by decide +kernel
theorem dX11_print_167 : decode cX11_print 167 = .ok (.aload_n 0, 1) := by decide +kernel
theorem dX11_print_168 : decode cX11_print 168 = .ok (.ldc_w 442, 3) := by decide +kernel
theorem dX11_print_171 : decode cX11_print 171 = .ok (.invokevirtual 438, 3) := by decide +kernel
theorem dX11_print_174 : decode cX11_print 174 = .ok (.goto 36, 3) := by decide +kernel
theorem dX11_print_177 : decode cX11_print 177 = .ok (.aload_n 0, 1) := by decide +kernel
theorem dX11_print_178 : decode cX11_print 178 = .ok (.getfield 63, 3) := by decide +kernel
theorem dX11_print_181 : decode cX11_print 181 = .ok (.iload_n 1, 1) := by decide +kernel
theorem dX11_print_182 : decode cX11_print 182 = .ok (.laload, 1) := by decide +kernel
theorem dX11_print_183 : decode cX11_print 183 = .ok (.ldc2_w 298, 3) := by decide +kernel
theorem dX11_print_186 : decode cX11_print 186 = .ok (.lcmp, 1) := by decide +kernel
theorem dX11_print_187 : decode cX11_print 187 = .ok (.ifCond .ne 13, 3) := by decide +kernel
theorem dX11_print_190 : decode cX11_print 190 = .ok (.aload_n 0, 1) := by decide +kernel
theorem dX11_print_191 : decode cX11_print 191 = .ok (.ldc_w 444, 3) := by decide +kernel
theorem dX11_print_194 : decode cX11_print 194 = .ok (.invokevirtual 438, 3) := by decide +kernel
theorem dX11_print_197 : decode cX11_print 197 = .ok (.goto 13, 3) := by decide +kernel
theorem dX11_print_200 : decode cX11_print 200 = .ok (.aload_n 0, 1) := by decide +kernel
theorem dX11_print_201 : decode cX11_print 201 = .ok (.aload_n 0, 1) := by decide +kernel
theorem dX11_print_202 : decode cX11_print 202 = .ok (.getfield 63, 3) := by decide +kernel
theorem dX11_print_205 : decode cX11_print 205 = .ok (.iload_n 1, 1) := by decide +kernel
theorem dX11_print_206 : decode cX11_print 206 = .ok (.laload, 1) := by decide +kernel
theorem dX11_print_207 : decode cX11_print 207 = .ok (.invokevirtual 429, 3) := by decide +kernel
theorem dX11_print_210 : decode cX11_print 210 = .ok (.aload_n 0, 1) := by decide +kernel
theorem dX11_print_211 : decode cX11_print 211 = .ok (.aload_n 0, 1) := by decide +kernel
theorem dX11_print_212 : decode cX11_print 212 = .ok (.getfield 66, 3) := by decide +kernel
theorem dX11_print_215 : decode cX11_print 215 = .ok (.iload_n 1, 1) := by decide +kernel
theorem dX11_print_216 : decode cX11_print 216 = .ok (.baload, 1) := by decide +kernel
theorem dX11_print_217 : decode cX11_print 217 = .ok (.ifCond .eq 9, 3) := by decide +kernel
theorem dX11_print_220 : decode cX11_print 220 = .ok (.ldc_w 446, 3) := by decide +kernel
theorem dX11_print_223 : decode cX11_print 223 = .ok (.goto 6, 3) := by decide +kernel
theorem dX11_print_226 : decode cX11_print 226 = .ok (.ldc_w 448, 3) := by decide +kernel
theorem dX11_print_229 : decode cX11_print 229 = .ok (.invokevirtual 438, 3) := by decide +kernel
theorem dX11_print_232 : decode cX11_print 232 = .ok (.aload_n 0, 1) := by decide +kernel
theorem dX11_print_233 : decode cX11_print 233 = .ok (.bipush 10, 2) := by decide +kernel
theorem dX11_print_235 : decode cX11_print 235 = .ok (.invokevirtual 415, 3) := by decide +kernel
theorem dX11_print_238 : decode cX11_print 238 = .ok (.iinc 1 1, 3) := by decide +kernel
theorem dX11_print_241 : decode cX11_print 241 = .ok (.goto (-220), 3) := by decide +kernel
theorem dX11_print_244 : decode cX11_print 244 = .ok (.aload_n 0, 1) := by decide +kernel
theorem dX11_print_245 : decode cX11_print 245 = .ok (.getfield 412, 3) := by decide +kernel
theorem dX11_print_248 : decode cX11_print 248 = .ok (.ireturn, 1) := by decide +kernel
theorem dX11_letter_0 : decode cX11_letter 0 = .ok (.aload_n 0, 1) := by decide +kernel
theorem dX11_letter_1 : decode cX11_letter 1 = .ok (.iconst 0, 1) := by decide +kernel
theorem dX11_letter_2 : decode cX11_letter 2 = .ok (.putfield 123, 3) := by decide +kernel
theorem dX11_letter_5 : decode cX11_letter 5 = .ok (.iload_n 1, 1) := by decide +kernel
theorem dX11_letter_6 : decode cX11_letter 6 = .ok (.ifCond .lt 11, 3) := by decide +kernel
theorem dX11_letter_9 : decode cX11_letter 9 = .ok (.iload_n 1, 1) := by decide +kernel
theorem dX11_letter_10 : decode cX11_letter 10 = .ok (.aload_n 0, 1) := by decide +kernel
theorem dX11_letter_11 : decode cX11_letter 11 = .ok (.getfield 412, 3) := by decide +kernel
theorem dX11_letter_14 : decode cX11_letter 14 = .ok (.if_icmp .lt 7, 3) := by decide +kernel
theorem dX11_letter_17 : decode cX11_letter 17 = .ok (.iconst (-1), 1) := by decide +kernel
theorem dX11_letter_18 : decode cX11_letter 18 = .ok (.goto 9, 3) := by decide +kernel
theorem dX11_letter_21 : decode cX11_letter 21 = .ok (.aload_n 0, 1) := by decide +kernel
theorem dX11_letter_22 : decode cX11_letter 22 = .ok (.getfield 120, 3) := by decide +kernel
theorem dX11_letter_25 : decode cX11_letter 25 = .ok (.iload_n 1, 1) := by decide +kernel
theorem dX11_letter_26 : decode cX11_letter 26 = .ok (.baload, 1) := by decide +kernel
theorem dX11_letter_27 : decode cX11_letter 27 = .ok (.ireturn, 1) := by decide +kernel
theorem dJ11_isValidCodePoint_9a6ad_0 : decode cJ11_isValidCodePoint_9a6ad 0 = .ok (.iload_n 0, 1) := by decide +kernel
theorem dJ11_isValidCodePoint_9a6ad_1 : decode cJ11_isValidCodePoint_9a6ad 1 = .ok (.bipush 16, 2) := by decide +kernel
theorem dJ11_isValidCodePoint_9a6ad_3 : decode cJ11_isValidCodePoint_9a6ad 3 = .ok (.iushr, 1) := by decide +kernel
theorem dJ11_isValidCodePoint_9a6ad_4 : decode cJ11_isValidCodePoint_9a6ad 4 = .ok (.istore_n 1, 1) := by decide +kernel
theorem dJ11_isValidCodePoint_9a6ad_5 : decode cJ11_isValidCodePoint_9a6ad 5 = .ok (.iload_n 1, 1) := by decide +kernel
theorem dJ11_isValidCodePoint_9a6ad_6 : decode cJ11_isValidCodePoint_9a6ad 6 = .ok (.bipush 17, 2) := by decide +kernel
theorem dJ11_isValidCodePoint_9a6ad_8 : decode cJ11_isValidCodePoint_9a6ad 8 = .ok (.if_icmp .ge 7, 3) := by decide +kernel
theorem dJ11_isValidCodePoint_9a6ad_11 : decode cJ11_isValidCodePoint_9a6ad 11 = .ok (.iconst 1, 1) := by decide +kernel
theorem dJ11_isValidCodePoint_9a6ad_12 : decode cJ11_isValidCodePoint_9a6ad 12 = .ok (.goto 4, 3) := by decide +kernel
theorem dJ11_isValidCodePoint_9a6ad_15 : decode cJ11_isValidCodePoint_9a6ad 15 = .ok (.iconst 0, 1) := by decide +kernel
theorem dJ11_isValidCodePoint_9a6ad_16 : decode cJ11_isValidCodePoint_9a6ad 16 = .ok (.ireturn, 1) := by decide +kernel
theorem dJ11_highSurrogate_5068e_0 : decode cJ11_highSurrogate_5068e 0 = .ok (.iload_n 0, 1) := by decide +kernel
theorem dJ11_highSurrogate_5068e_1 : decode cJ11_highSurrogate_5068e 1 = .ok (.bipush 10, 2) := by decide +kernel
theorem dJ11_highSurrogate_5068e_3 : decode cJ11_highSurrogate_5068e 3 = .ok (.iushr, 1) := by decide +kernel
theorem dJ11_highSurrogate_5068e_4 : decode cJ11_highSurrogate_5068e 4 = .ok (.ldc 110, 2) := by decide +kernel
theorem dJ11_highSurrogate_5068e_6 : decode cJ11_highSurrogate_5068e 6 = .ok (.iadd, 1) := by decide +kernel
theorem dJ11_highSurrogate_5068e_7 : decode cJ11_highSurrogate_5068e 7 = .ok (.i2c, 1) := by decide +kernel
theorem dJ11_highSurrogate_5068e_8 : decode cJ11_highSurrogate_5068e 8 = .ok (.ireturn, 1) := by decide +kernel
theorem dJ11_lowSurrogate_5068e_0 : decode cJ11_lowSurrogate_5068e 0 = .ok (.iload_n 0, 1) := by decide +kernel
theorem dJ11_lowSurrogate_5068e_1 : decode cJ11_lowSurrogate_5068e 1 = .ok (.sipush 1023, 3) := by decide +kernel
theorem dJ11_lowSurrogate_5068e_4 : decode cJ11_lowSurrogate_5068e 4 = .ok (.iand, 1) := by decide +kernel
theorem dJ11_lowSurrogate_5068e_5 : decode cJ11_lowSurrogate_5068e 5 = .ok (.ldc 76, 2) := by decide +kernel
theorem dJ11_lowSurrogate_5068e_7 : decode cJ11_lowSurrogate_5068e 7 = .ok (.iadd, 1) := by decide +kernel
theorem dJ11_lowSurrogate_5068e_8 : decode cJ11_lowSurrogate_5068e 8 = .ok (.i2c, 1) := by decide +kernel
theorem dJ11_lowSurrogate_5068e_9 : decode cJ11_lowSurrogate_5068e 9 = .ok (.ireturn, 1) := by decide +kernel
theorem dJ9_floorDiv_f86c9_0 : decode cJ9_floorDiv_f86c9 0 = .ok (.lload_n 0, 1) := by decide +kernel
theorem dJ9_floorDiv_f86c9_1 : decode cJ9_floorDiv_f86c9 1 = .ok (.lload_n 2, 1) := by decide +kernel
theorem dJ9_floorDiv_f86c9_2 : decode cJ9_floorDiv_f86c9 2 = .ok (.ldiv, 1) := by decide +kernel
theorem dJ9_floorDiv_f86c9_3 : decode cJ9_floorDiv_f86c9 3 = .ok (.lstore 4, 2) := by decide +kernel
theorem dJ9_floorDiv_f86c9_5 : decode cJ9_floorDiv_f86c9 5 = .ok (.lload_n 0, 1) := by decide +kernel
theorem dJ9_floorDiv_f86c9_6 : decode cJ9_floorDiv_f86c9 6 = .ok (.lload_n 2, 1) := by decide +kernel
theorem dJ9_floorDiv_f86c9_7 : decode cJ9_floorDiv_f86c9 7 = .ok (.lxor, 1) := by decide +kernel
theorem dJ9_floorDiv_f86c9_8 : decode cJ9_floorDiv_f86c9 8 = .ok (.lconst 0, 1) := by decide +kernel
theorem dJ9_floorDiv_f86c9_9 : decode cJ9_floorDiv_f86c9 9 = .ok (.lcmp, 1) := by decide +kernel
theorem dJ9_floorDiv_f86c9_10 : decode cJ9_floorDiv_f86c9 10 = .ok (.ifCond .ge 17, 3) := by decide +kernel
theorem dJ9_floorDiv_f86c9_13 : decode cJ9_floorDiv_f86c9 13 = .ok (.lload 4, 2) := by decide +kernel
theorem dJ9_floorDiv_f86c9_15 : decode cJ9_floorDiv_f86c9 15 = .ok (.lload_n 2, 1) := by decide +kernel
theorem dJ9_floorDiv_f86c9_16 : decode cJ9_floorDiv_f86c9 16 = .ok (.lmul, 1) := by decide +kernel
theorem dJ9_floorDiv_f86c9_17 : decode cJ9_floorDiv_f86c9 17 = .ok (.lload_n 0, 1) := by decide +kernel
theorem dJ9_floorDiv_f86c9_18 : decode cJ9_floorDiv_f86c9 18 = .ok (.lcmp, 1) := by decide +kernel
theorem dJ9_floorDiv_f86c9_19 : decode cJ9_floorDiv_f86c9 19 = .ok (.ifCond .eq 8, 3) := by decide +kernel
theorem dJ9_floorDiv_f86c9_22 : decode cJ9_floorDiv_f86c9 22 = .ok (.lload 4, 2) := by decide +kernel
theorem dJ9_floorDiv_f86c9_24 : decode cJ9_floorDiv_f86c9 24 = .ok (.lconst 1, 1) := by decide +kernel
theorem dJ9_floorDiv_f86c9_25 : decode cJ9_floorDiv_f86c9 25 = .ok (.lsub, 1) := by decide +kernel
theorem dJ9_floorDiv_f86c9_26 : decode cJ9_floorDiv_f86c9 26 = .ok (.lreturn, 1) := by decide +kernel
theorem dJ9_floorDiv_f86c9_27 : decode cJ9_floorDiv_f86c9 27 = .ok (.lload 4, 2) := by decide +kernel
theorem dJ9_floorDiv_f86c9_29 : decode cJ9_floorDiv_f86c9 29 = .ok (.lreturn, 1) := by decide +kernel
theorem dJ9_max_7cf53_0 : decode cJ9_max_7cf53 0 = .ok (.iload_n 0, 1) := by decide +kernel
theorem dJ9_max_7cf53_1 : decode cJ9_max_7cf53 1 = .ok (.iload_n 1, 1) := by decide +kernel
theorem dJ9_max_7cf53_2 : decode cJ9_max_7cf53 2 = .ok (.if_icmp .lt 7, 3) := by decide +kernel
theorem dJ9_max_7cf53_5 : decode cJ9_max_7cf53 5 = .ok (.iload_n 0, 1) := by decide +kernel
theorem dJ9_max_7cf53_6 : decode cJ9_max_7cf53 6 = .ok (.goto 4, 3) := by decide +kernel
theorem dJ9_max_7cf53_9 : decode cJ9_max_7cf53 9 = .ok (.iload_n 1, 1) := by decide +kernel
theorem dJ9_max_7cf53_10 : decode cJ9_max_7cf53 10 = .ok (.ireturn, 1) := by decide +kernel
theorem dJ9_max_f86c9_0 : decode cJ9_max_f86c9 0 = .ok (.lload_n 0, 1) := by decide +kernel
theorem dJ9_max_f86c9_1 : decode cJ9_max_f86c9 1 = .ok (.lload_n 2, 1) := by decide +kernel
theorem dJ9_max_f86c9_2 : decode cJ9_max_f86c9 2 = .ok (.lcmp, 1) := by decide +kernel
theorem dJ9_max_f86c9_3 : decode cJ9_max_f86c9 3 = .ok (.ifCond .lt 7, 3) := by decide +kernel
theorem dJ9_max_f86c9_6 : decode cJ9_max_f86c9 6 = .ok (.lload_n 0, 1) := by decide +kernel
theorem dJ9_max_f86c9_7 : decode cJ9_max_f86c9 7 = .ok (.goto 4, 3) := by decide +kernel
theorem dJ9_max_f86c9_10 : decode cJ9_max_f86c9 10 = .ok (.lload_n 2, 1) := by decide +kernel
theorem dJ9_max_f86c9_11 : decode cJ9_max_f86c9 11 = .ok (.lreturn, 1) := by decide +kernel
theorem dJ9_min_7cf53_0 : decode cJ9_min_7cf53 0 = .ok (.iload_n 0, 1) := by decide +kernel
theorem dJ9_min_7cf53_1 : decode cJ9_min_7cf53 1 = .ok (.iload_n 1, 1) := by decide +kernel
theorem dJ9_min_7cf53_2 : decode cJ9_min_7cf53 2 = .ok (.if_icmp .gt 7, 3) := by decide +kernel
theorem dJ9_min_7cf53_5 : decode cJ9_min_7cf53 5 = .ok (.iload_n 0, 1) := by decide +kernel
theorem dJ9_min_7cf53_6 : decode cJ9_min_7cf53 6 = .ok (.goto 4, 3) := by decide +kernel
theorem dJ9_min_7cf53_9 : decode cJ9_min_7cf53 9 = .ok (.iload_n 1, 1) := by decide +kernel
theorem dJ9_min_7cf53_10 : decode cJ9_min_7cf53 10 = .ok (.ireturn, 1) := by decide +kernel
theorem dJ9_min_f86c9_0 : decode cJ9_min_f86c9 0 = .ok (.lload_n 0, 1) := by decide +kernel
theorem dJ9_min_f86c9_1 : decode cJ9_min_f86c9 1 = .ok (.lload_n 2, 1) := by decide +kernel
theorem dJ9_min_f86c9_2 : decode cJ9_min_f86c9 2 = .ok (.lcmp, 1) := by decide +kernel
theorem dJ9_min_f86c9_3 : decode cJ9_min_f86c9 3 = .ok (.ifCond .gt 7, 3) := by decide +kernel
theorem dJ9_min_f86c9_6 : decode cJ9_min_f86c9 6 = .ok (.lload_n 0, 1) := by decide +kernel
theorem dJ9_min_f86c9_7 : decode cJ9_min_f86c9 7 = .ok (.goto 4, 3) := by decide +kernel
theorem dJ9_min_f86c9_10 : decode cJ9_min_f86c9 10 = .ok (.lload_n 2, 1) := by decide +kernel
theorem dJ9_min_f86c9_11 : decode cJ9_min_f86c9 11 = .ok (.lreturn, 1) := by decide +kernel
theorem dJ0_length_8abf5_0 : decode cJ0_length_8abf5 0 = .ok (.aload_n 0, 1) := by decide +kernel
theorem dJ0_length_8abf5_1 : decode cJ0_length_8abf5 1 = .ok (.getfield 9, 3) := by decide +kernel
theorem dJ0_length_8abf5_4 : decode cJ0_length_8abf5 4 = .ok (.arraylength, 1) := by decide +kernel
theorem dJ0_length_8abf5_5 : decode cJ0_length_8abf5 5 = .ok (.aload_n 0, 1) := by decide +kernel
theorem dJ0_length_8abf5_6 : decode cJ0_length_8abf5 6 = .ok (.invokevirtual 335, 3) := by decide +kernel
theorem dJ0_length_8abf5_9 : decode cJ0_length_8abf5 9 = .ok (.ishr, 1) := by decide +kernel
theorem dJ0_length_8abf5_10 : decode cJ0_length_8abf5 10 = .ok (.ireturn, 1) := by decide +kernel
theorem dJ0_charAt_5068e_0 : decode cJ0_charAt_5068e 0 = .ok (.aload_n 0, 1) := by decide +kernel
theorem dJ0_charAt_5068e_1 : decode cJ0_charAt_5068e 1 = .ok (.invokevirtual 492, 3) := by decide +kernel
theorem dJ0_charAt_5068e_4 : decode cJ0_charAt_5068e 4 = .ok (.ifCond .eq 12, 3) := by decide +kernel
theorem dJ0_charAt_5068e_7 : decode cJ0_charAt_5068e 7 = .ok (.aload_n 0, 1) := by decide +kernel
theorem dJ0_charAt_5068e_8 : decode cJ0_charAt_5068e 8 = .ok (.getfield 9, 3) := by decide +kernel
theorem dJ0_charAt_5068e_11 : decode cJ0_charAt_5068e 11 = .ok (.iload_n 1, 1) := by decide +kernel
theorem dJ0_charAt_5068e_12 : decode cJ0_charAt_5068e 12 = .ok (.invokestatic 495, 3) := by decide +kernel
theorem dJ0_charAt_5068e_15 : decode cJ0_charAt_5068e 15 = .ok (.ireturn, 1) := by decide +kernel
theorem dJ0_charAt_5068e_16 : decode cJ0_charAt_5068e 16 = .ok (.aload_n 0, 1) := by decide +kernel
theorem dJ0_charAt_5068e_17 : decode cJ0_charAt_5068e 17 = .ok (.getfield 9, 3) := by decide +kernel
theorem dJ0_charAt_5068e_20 : decode cJ0_charAt_5068e 20 = .ok (.iload_n 1, 1) := by decide +kernel
theorem dJ0_charAt_5068e_21 : decode cJ0_charAt_5068e 21 = .ok (.invokestatic 498, 3) := by decide +kernel
theorem dJ0_charAt_5068e_24 : decode cJ0_charAt_5068e 24 = .ok (.ireturn, 1) := by decide +kernel
theorem dJ0_indexOf_7cf53_0 : decode cJ0_indexOf_7cf53 0 = .ok (.aload_n 0, 1) := by decide +kernel
theorem dJ0_indexOf_7cf53_1 : decode cJ0_indexOf_7cf53 1 = .ok (.invokevirtual 492, 3) := by decide +kernel
theorem dJ0_indexOf_7cf53_4 : decode cJ0_indexOf_7cf53 4 = .ok (.ifCond .eq 19, 3) := by decide +kernel
theorem dJ0_indexOf_7cf53_7 : decode cJ0_indexOf_7cf53 7 = .ok (.aload_n 0, 1) := by decide +kernel
theorem dJ0_indexOf_7cf53_8 : decode cJ0_indexOf_7cf53 8 = .ok (.getfield 9, 3) := by decide +kernel
theorem dJ0_indexOf_7cf53_11 : decode cJ0_indexOf_7cf53 11 = .ok (.iload_n 1, 1) := by decide +kernel
theorem dJ0_indexOf_7cf53_12 : decode cJ0_indexOf_7cf53 12 = .ok (.iload_n 2, 1) := by decide +kernel
theorem dJ0_indexOf_7cf53_13 : decode cJ0_indexOf_7cf53 13 = .ok (.aload_n 0, 1) := by decide +kernel
theorem dJ0_indexOf_7cf53_14 : decode cJ0_indexOf_7cf53 14 = .ok (.invokevirtual 505, 3) := by decide +kernel
theorem dJ0_indexOf_7cf53_17 : decode cJ0_indexOf_7cf53 17 = .ok (.invokestatic 637, 3) := by decide +kernel
theorem dJ0_indexOf_7cf53_20 : decode cJ0_indexOf_7cf53 20 = .ok (.goto 16, 3) := by decide +kernel
theorem dJ0_indexOf_7cf53_23 : decode cJ0_indexOf_7cf53 23 = .ok (.aload_n 0, 1) := by decide +kernel
theorem dJ0_indexOf_7cf53_24 : decode cJ0_indexOf_7cf53 24 = .ok (.getfield 9, 3) := by decide +kernel
theorem dJ0_indexOf_7cf53_27 : decode cJ0_indexOf_7cf53 27 = .ok (.iload_n 1, 1) := by decide +kernel
theorem dJ0_indexOf_7cf53_28 : decode cJ0_indexOf_7cf53 28 = .ok (.iload_n 2, 1) := by decide +kernel
theorem dJ0_indexOf_7cf53_29 : decode cJ0_indexOf_7cf53 29 = .ok (.aload_n 0, 1) := by decide +kernel
theorem dJ0_indexOf_7cf53_30 : decode cJ0_indexOf_7cf53 30 = .ok (.invokevirtual 505, 3) := by decide +kernel
theorem dJ0_indexOf_7cf53_33 : decode cJ0_indexOf_7cf53 33 = .ok (.invokestatic 640, 3) := by decide +kernel
theorem dJ0_indexOf_7cf53_36 : decode cJ0_indexOf_7cf53 36 = .ok (.ireturn, 1) := by decide +kernel
theorem dJ0_coder_7d493_0 : decode cJ0_coder_7d493 0 = .ok (.getstatic 38, 3) := by decide +kernel
theorem dJ0_coder_7d493_3 : decode cJ0_coder_7d493 3 = .ok (.ifCond .eq 10, 3) := by decide +kernel
theorem dJ0_coder_7d493_6 : decode cJ0_coder_7d493 6 = .ok (.aload_n 0, 1) := by decide +kernel
theorem dJ0_coder_7d493_7 : decode cJ0_coder_7d493 7 = .ok (.getfield 15, 3) := by decide +kernel
theorem dJ0_coder_7d493_10 : decode cJ0_coder_7d493 10 = .ok (.goto 4, 3) := by decide +kernel
theorem dJ0_coder_7d493_13 : decode cJ0_coder_7d493 13 = .ok (.iconst 1, 1) := by decide +kernel
theorem dJ0_coder_7d493_14 : decode cJ0_coder_7d493 14 = .ok (.ireturn, 1) := by decide +kernel
theorem dJ0_isLatin1_aae02_0 : decode cJ0_isLatin1_aae02 0 = .ok (.getstatic 38, 3) := by decide +kernel
theorem dJ0_isLatin1_aae02_3 : decode cJ0_isLatin1_aae02 3 = .ok (.ifCond .eq 14, 3) := by decide +kernel
theorem dJ0_isLatin1_aae02_6 : decode cJ0_isLatin1_aae02 6 = .ok (.aload_n 0, 1) := by decide +kernel
theorem dJ0_isLatin1_aae02_7 : decode cJ0_isLatin1_aae02 7 = .ok (.getfield 15, 3) := by decide +kernel
theorem dJ0_isLatin1_aae02_10 : decode cJ0_isLatin1_aae02 10 = .ok (.ifCond .ne 7, 3) := by decide +kernel
theorem dJ0_isLatin1_aae02_13 : decode cJ0_isLatin1_aae02 13 = .ok (.iconst 1, 1) := by decide +kernel
theorem dJ0_isLatin1_aae02_14 : decode cJ0_isLatin1_aae02 14 = .ok (.goto 4, 3) := by decide +kernel
theorem dJ0_isLatin1_aae02_17 : decode cJ0_isLatin1_aae02 17 = .ok (.iconst 0, 1) := by decide +kernel
theorem dJ0_isLatin1_aae02_18 : decode cJ0_isLatin1_aae02 18 = .ok (.ireturn, 1) := by decide +kernel
theorem dJ0_checkIndex_df160_0 : decode cJ0_checkIndex_df160 0 = .ok (.iload_n 0, 1) := by decide +kernel
theorem dJ0_checkIndex_df160_1 : decode cJ0_checkIndex_df160 1 = .ok (.iload_n 1, 1) := by decide +kernel
theorem dJ0_checkIndex_df160_2 : decode cJ0_checkIndex_df160 2 = .ok (.getstatic 1053, 3) := by decide +kernel
theorem dJ0_checkIndex_df160_5 : decode cJ0_checkIndex_df160 5 = .ok (.invokestatic 1059, 3) := by decide +kernel
theorem dJ0_checkIndex_df160_8 : decode cJ0_checkIndex_df160 8 = .ok (.pop, 1) := by decide +kernel
theorem dJ0_checkIndex_df160_9 : decode cJ0_checkIndex_df160 9 = .ok (.return_, 1) := by decide +kernel
theorem dJ0_checkBoundsBeginEnd_23922_0 : decode cJ0_checkBoundsBeginEnd_23922 0 = .ok (.iload_n 0, 1) := by decide +kernel
theorem dJ0_checkBoundsBeginEnd_23922_1 : decode cJ0_checkBoundsBeginEnd_23922 1 = .ok (.iload_n 1, 1) := by decide +kernel
theorem dJ0_checkBoundsBeginEnd_23922_2 : decode cJ0_checkBoundsBeginEnd_23922 2 = .ok (.iload_n 2, 1) := by decide +kernel
theorem dJ0_checkBoundsBeginEnd_23922_3 : decode cJ0_checkBoundsBeginEnd_23922 3 = .ok (.getstatic 1053, 3) := by decide +kernel
theorem dJ0_checkBoundsBeginEnd_23922_6 : decode cJ0_checkBoundsBeginEnd_23922 6 = .ok (.invokestatic 1062, 3) := by decide +kernel
theorem dJ0_checkBoundsBeginEnd_23922_9 : decode cJ0_checkBoundsBeginEnd_23922 9 = .ok (.pop, 1) := by decide +kernel
theorem dJ0_checkBoundsBeginEnd_23922_10 : decode cJ0_checkBoundsBeginEnd_23922 10 = .ok (.return_, 1) := by decide +kernel
theorem dJ1_charAt_3b067_0 : decode cJ1_charAt_3b067 0 = .ok (.iload_n 1, 1) := by decide +kernel
theorem dJ1_charAt_3b067_1 : decode cJ1_charAt_3b067 1 = .ok (.aload_n 0, 1) := by decide +kernel
theorem dJ1_charAt_3b067_2 : decode cJ1_charAt_3b067 2 = .ok (.arraylength, 1) := by decide +kernel
theorem dJ1_charAt_3b067_3 : decode cJ1_charAt_3b067 3 = .ok (.invokestatic 9, 3) := by decide +kernel
theorem dJ1_charAt_3b067_6 : decode cJ1_charAt_3b067 6 = .ok (.aload_n 0, 1) := by decide +kernel
theorem dJ1_charAt_3b067_7 : decode cJ1_charAt_3b067 7 = .ok (.iload_n 1, 1) := by decide +kernel
theorem dJ1_charAt_3b067_8 : decode cJ1_charAt_3b067 8 = .ok (.baload, 1) := by decide +kernel
theorem dJ1_charAt_3b067_9 : decode cJ1_charAt_3b067 9 = .ok (.sipush 255, 3) := by decide +kernel
theorem dJ1_charAt_3b067_12 : decode cJ1_charAt_3b067 12 = .ok (.iand, 1) := by decide +kernel
theorem dJ1_charAt_3b067_13 : decode cJ1_charAt_3b067 13 = .ok (.i2c, 1) := by decide +kernel
theorem dJ1_charAt_3b067_14 : decode cJ1_charAt_3b067 14 = .ok (.ireturn, 1) := by decide +kernel
theorem dJ1_canEncode_9a6ad_0 : decode cJ1_canEncode_9a6ad 0 = .ok (.iload_n 0, 1) := by decide +kernel
theorem dJ1_canEncode_9a6ad_1 : decode cJ1_canEncode_9a6ad 1 = .ok (.ifCond .lt 14, 3) := by decide +kernel
theorem dJ1_canEncode_9a6ad_4 : decode cJ1_canEncode_9a6ad 4 = .ok (.iload_n 0, 1) := by decide +kernel
theorem dJ1_canEncode_9a6ad_5 : decode cJ1_canEncode_9a6ad 5 = .ok (.sipush 255, 3) := by decide +kernel
theorem dJ1_canEncode_9a6ad_8 : decode cJ1_canEncode_9a6ad 8 = .ok (.if_icmp .gt 7, 3) := by decide +kernel
theorem dJ1_canEncode_9a6ad_11 : decode cJ1_canEncode_9a6ad 11 = .ok (.iconst 1, 1) := by decide +kernel
theorem dJ1_canEncode_9a6ad_12 : decode cJ1_canEncode_9a6ad 12 = .ok (.goto 4, 3) := by decide +kernel
theorem dJ1_canEncode_9a6ad_15 : decode cJ1_canEncode_9a6ad 15 = .ok (.iconst 0, 1) := by decide +kernel
theorem dJ1_canEncode_9a6ad_16 : decode cJ1_canEncode_9a6ad 16 = .ok (.ireturn, 1) := by decide +kernel
theorem dJ1_indexOf_4cfef_0 : decode cJ1_indexOf_4cfef 0 = .ok (.iload_n 1, 1) := by decide +kernel
theorem dJ1_indexOf_4cfef_1 : decode cJ1_indexOf_4cfef 1 = .ok (.invokestatic 88, 3) := by decide +kernel
theorem dJ1_indexOf_4cfef_4 : decode cJ1_indexOf_4cfef 4 = .ok (.ifCond .ne 5, 3) := by decide +kernel
theorem dJ1_indexOf_4cfef_7 : decode cJ1_indexOf_4cfef 7 = .ok (.iconst (-1), 1) := by decide +kernel
theorem dJ1_indexOf_4cfef_8 : decode cJ1_indexOf_4cfef 8 = .ok (.ireturn, 1) := by decide +kernel
theorem dJ1_indexOf_4cfef_9 : decode cJ1_indexOf_4cfef 9 = .ok (.iload_n 2, 1) := by decide +kernel
theorem dJ1_indexOf_4cfef_10 : decode cJ1_indexOf_4cfef 10 = .ok (.iconst 0, 1) := by decide +kernel
theorem dJ1_indexOf_4cfef_11 : decode cJ1_indexOf_4cfef 11 = .ok (.invokestatic 92, 3) := by decide +kernel
theorem dJ1_indexOf_4cfef_14 : decode cJ1_indexOf_4cfef 14 = .ok (.istore_n 2, 1) := by decide +kernel
theorem dJ1_indexOf_4cfef_15 : decode cJ1_indexOf_4cfef 15 = .ok (.iload_n 3, 1) := by decide +kernel
theorem dJ1_indexOf_4cfef_16 : decode cJ1_indexOf_4cfef 16 = .ok (.aload_n 0, 1) := by decide +kernel
theorem dJ1_indexOf_4cfef_17 : decode cJ1_indexOf_4cfef 17 = .ok (.arraylength, 1) := by decide +kernel
theorem dJ1_indexOf_4cfef_18 : decode cJ1_indexOf_4cfef 18 = .ok (.invokestatic 38, 3) := by decide +kernel
theorem dJ1_indexOf_4cfef_21 : decode cJ1_indexOf_4cfef 21 = .ok (.istore_n 3, 1) := by decide +kernel
theorem dJ1_indexOf_4cfef_22 : decode cJ1_indexOf_4cfef 22 = .ok (.iload_n 2, 1) := by decide +kernel
theorem dJ1_indexOf_4cfef_23 : decode cJ1_indexOf_4cfef 23 = .ok (.iload_n 3, 1) := by decide +kernel
theorem dJ1_indexOf_4cfef_24 : decode cJ1_indexOf_4cfef 24 = .ok (.if_icmp .lt 5, 3) := by decide +kernel
theorem dJ1_indexOf_4cfef_27 : decode cJ1_indexOf_4cfef 27 = .ok (.iconst (-1), 1) := by decide +kernel
theorem dJ1_indexOf_4cfef_28 : decode cJ1_indexOf_4cfef 28 = .ok (.ireturn, 1) := by decide +kernel
theorem dJ1_indexOf_4cfef_29 : decode cJ1_indexOf_4cfef 29 = .ok (.aload_n 0, 1) := by decide +kernel
theorem dJ1_indexOf_4cfef_30 : decode cJ1_indexOf_4cfef 30 = .ok (.iload_n 1, 1) := by decide +kernel
theorem dJ1_indexOf_4cfef_31 : decode cJ1_indexOf_4cfef 31 = .ok (.iload_n 2, 1) := by decide +kernel
theorem dJ1_indexOf_4cfef_32 : decode cJ1_indexOf_4cfef 32 = .ok (.iload_n 3, 1) := by decide +kernel
theorem dJ1_indexOf_4cfef_33 : decode cJ1_indexOf_4cfef 33 = .ok (.invokestatic 95, 3) := by decide +kernel
theorem dJ1_indexOf_4cfef_36 : decode cJ1_indexOf_4cfef 36 = .ok (.ireturn, 1) := by decide +kernel
theorem dJ1_indexOfChar_4cfef_0 : decode cJ1_indexOfChar_4cfef 0 = .ok (.iload_n 1, 1) := by decide +kernel
theorem dJ1_indexOfChar_4cfef_1 : decode cJ1_indexOfChar_4cfef 1 = .ok (.i2b, 1) := by decide +kernel
theorem dJ1_indexOfChar_4cfef_2 : decode cJ1_indexOfChar_4cfef 2 = .ok (.istore 4, 2) := by decide +kernel
theorem dJ1_indexOfChar_4cfef_4 : decode cJ1_indexOfChar_4cfef 4 = .ok (.iload_n 2, 1) := by decide +kernel
theorem dJ1_indexOfChar_4cfef_5 : decode cJ1_indexOfChar_4cfef 5 = .ok (.istore 5, 2) := by decide +kernel
theorem dJ1_indexOfChar_4cfef_7 : decode cJ1_indexOfChar_4cfef 7 = .ok (.iload 5, 2) := by decide +kernel
theorem dJ1_indexOfChar_4cfef_9 : decode cJ1_indexOfChar_4cfef 9 = .ok (.iload_n 3, 1) := by decide +kernel
theorem dJ1_indexOfChar_4cfef_10 : decode cJ1_indexOfChar_4cfef 10 = .ok (.if_icmp .ge 21, 3) := by decide +kernel
theorem dJ1_indexOfChar_4cfef_13 : decode cJ1_indexOfChar_4cfef 13 = .ok (.aload_n 0, 1) := by decide +kernel
theorem dJ1_indexOfChar_4cfef_14 : decode cJ1_indexOfChar_4cfef 14 = .ok (.iload 5, 2) := by decide +kernel
theorem dJ1_indexOfChar_4cfef_16 : decode cJ1_indexOfChar_4cfef 16 = .ok (.baload, 1) := by decide +kernel
theorem dJ1_indexOfChar_4cfef_17 : decode cJ1_indexOfChar_4cfef 17 = .ok (.iload 4, 2) := by decide +kernel
theorem dJ1_indexOfChar_4cfef_19 : decode cJ1_indexOfChar_4cfef 19 = .ok (.if_icmp .ne 6, 3) := by decide +kernel
theorem dJ1_indexOfChar_4cfef_22 : decode cJ1_indexOfChar_4cfef 22 = .ok (.iload 5, 2) := by decide +kernel
theorem dJ1_indexOfChar_4cfef_24 : decode cJ1_indexOfChar_4cfef 24 = .ok (.ireturn, 1) := by decide +kernel
theorem dJ1_indexOfChar_4cfef_25 : decode cJ1_indexOfChar_4cfef 25 = .ok (.iinc 5 1, 3) := by decide +kernel
theorem dJ1_indexOfChar_4cfef_28 : decode cJ1_indexOfChar_4cfef 28 = .ok (.goto (-21), 3) := by decide +kernel
theorem dJ1_indexOfChar_4cfef_31 : decode cJ1_indexOfChar_4cfef 31 = .ok (.iconst (-1), 1) := by decide +kernel
theorem dJ1_indexOfChar_4cfef_32 : decode cJ1_indexOfChar_4cfef 32 = .ok (.ireturn, 1) := by decide +kernel
theorem dJ2_getChar_3b067_0 : decode cJ2_getChar_3b067 0 = .ok (.getstatic 44, 3) := by decide +kernel
theorem dJ2_getChar_3b067_3 : decode cJ2_getChar_3b067 3 = .ok (.ifCond .ne 25, 3) := by decide +kernel
theorem dJ2_getChar_3b067_6 : decode cJ2_getChar_3b067 6 = .ok (.iload_n 1, 1) := by decide +kernel
theorem dJ2_getChar_3b067_7 : decode cJ2_getChar_3b067 7 = .ok (.ifCond .lt 11, 3) := by decide +kernel
theorem dJ2_getChar_3b067_10 : decode cJ2_getChar_3b067 10 = .ok (.iload_n 1, 1) := by decide +kernel
theorem dJ2_getChar_3b067_11 : decode cJ2_getChar_3b067 11 = .ok (.aload_n 0, 1) := by decide +kernel
theorem dJ2_getChar_3b067_12 : decode cJ2_getChar_3b067 12 = .ok (.invokestatic 48, 3) := by decide +kernel
theorem dJ2_getChar_3b067_15 : decode cJ2_getChar_3b067 15 = .ok (.if_icmp .lt 13, 3) := by decide +kernel
theorem dJ2_getChar_3b067_18 : decode cJ2_getChar_3b067 18 = .ok (.new 52, 3) := by decide +kernel
theorem dJ2_getChar_3b067_21 : decode cJ2_getChar_3b067 21 = .ok (.dup, 1) := by decide +kernel
theorem dJ2_getChar_3b067_22 : decode cJ2_getChar_3b067 22 = .ok (.ldc 54, 2) := by decide +kernel
theorem dJ2_getChar_3b067_24 : decode cJ2_getChar_3b067 24 = .ok (.invokespecial 56, 3) := by decide +kernel
theorem dJ2_getChar_3b067_27 : decode cJ2_getChar_3b067 27 = .ok (.athrow, 1) := by decide +kernel
theorem dJ2_getChar_3b067_28 : decode cJ2_getChar_3b067 28 = .ok (.iload_n 1, 1) := by decide +kernel
theorem dJ2_getChar_3b067_29 : decode cJ2_getChar_3b067 29 = .ok (.iconst 1, 1) := by decide +kernel
theorem dJ2_getChar_3b067_30 : decode cJ2_getChar_3b067 30 = .ok (.ishl, 1) := by decide +kernel
theorem dJ2_getChar_3b067_31 : decode cJ2_getChar_3b067 31 = .ok (.istore_n 1, 1) := by decide +kernel
theorem dJ2_getChar_3b067_32 : decode cJ2_getChar_3b067 32 = .ok (.aload_n 0, 1) := by decide +kernel
theorem dJ2_getChar_3b067_33 : decode cJ2_getChar_3b067 33 = .ok (.iload_n 1, 1) := by decide +kernel
theorem dJ2_getChar_3b067_34 : decode cJ2_getChar_3b067 34 = .ok (.iinc 1 1, 3) := by decide +kernel
theorem dJ2_getChar_3b067_37 : decode cJ2_getChar_3b067 37 = .ok (.baload, 1) := by decide +kernel
theorem dJ2_getChar_3b067_38 : decode cJ2_getChar_3b067 38 = .ok (.sipush 255, 3) := by decide +kernel
theorem dJ2_getChar_3b067_41 : decode cJ2_getChar_3b067 41 = .ok (.iand, 1) := by decide +kernel
theorem dJ2_getChar_3b067_42 : decode cJ2_getChar_3b067 42 = .ok (.getstatic 59, 3) := by decide +kernel
theorem dJ2_getChar_3b067_45 : decode cJ2_getChar_3b067 45 = .ok (.ishl, 1) := by decide +kernel
theorem dJ2_getChar_3b067_46 : decode cJ2_getChar_3b067 46 = .ok (.aload_n 0, 1) := by decide +kernel
theorem dJ2_getChar_3b067_47 : decode cJ2_getChar_3b067 47 = .ok (.iload_n 1, 1) := by decide +kernel
theorem dJ2_getChar_3b067_48 : decode cJ2_getChar_3b067 48 = .ok (.baload, 1) := by decide +kernel
theorem dJ2_getChar_3b067_49 : decode cJ2_getChar_3b067 49 = .ok (.sipush 255, 3) := by decide +kernel
theorem dJ2_getChar_3b067_52 : decode cJ2_getChar_3b067 52 = .ok (.iand, 1) := by decide +kernel
theorem dJ2_getChar_3b067_53 : decode cJ2_getChar_3b067 53 = .ok (.getstatic 63, 3) := by decide +kernel
theorem dJ2_getChar_3b067_56 : decode cJ2_getChar_3b067 56 = .ok (.ishl, 1) := by decide +kernel
theorem dJ2_getChar_3b067_57 : decode cJ2_getChar_3b067 57 = .ok (.ior, 1) := by decide +kernel
theorem dJ2_getChar_3b067_58 : decode cJ2_getChar_3b067 58 = .ok (.i2c, 1) := by decide +kernel
theorem dJ2_getChar_3b067_59 : decode cJ2_getChar_3b067 59 = .ok (.ireturn, 1) := by decide +kernel
theorem dJ2_length_9d52b_0 : decode cJ2_length_9d52b 0 = .ok (.aload_n 0, 1) := by decide +kernel
theorem dJ2_length_9d52b_1 : decode cJ2_length_9d52b 1 = .ok (.arraylength, 1) := by decide +kernel
theorem dJ2_length_9d52b_2 : decode cJ2_length_9d52b 2 = .ok (.iconst 1, 1) := by decide +kernel
theorem dJ2_length_9d52b_3 : decode cJ2_length_9d52b 3 = .ok (.ishr, 1) := by decide +kernel
theorem dJ2_length_9d52b_4 : decode cJ2_length_9d52b 4 = .ok (.ireturn, 1) := by decide +kernel
theorem dJ2_indexOf_4cfef_0 : decode cJ2_indexOf_4cfef 0 = .ok (.iload_n 2, 1) := by decide +kernel
theorem dJ2_indexOf_4cfef_1 : decode cJ2_indexOf_4cfef 1 = .ok (.iconst 0, 1) := by decide +kernel
theorem dJ2_indexOf_4cfef_2 : decode cJ2_indexOf_4cfef 2 = .ok (.invokestatic 224, 3) := by decide +kernel
theorem dJ2_indexOf_4cfef_5 : decode cJ2_indexOf_4cfef 5 = .ok (.istore_n 2, 1) := by decide +kernel
theorem dJ2_indexOf_4cfef_6 : decode cJ2_indexOf_4cfef 6 = .ok (.iload_n 3, 1) := by decide +kernel
theorem dJ2_indexOf_4cfef_7 : decode cJ2_indexOf_4cfef 7 = .ok (.aload_n 0, 1) := by decide +kernel
theorem dJ2_indexOf_4cfef_8 : decode cJ2_indexOf_4cfef 8 = .ok (.arraylength, 1) := by decide +kernel
theorem dJ2_indexOf_4cfef_9 : decode cJ2_indexOf_4cfef 9 = .ok (.iconst 1, 1) := by decide +kernel
theorem dJ2_indexOf_4cfef_10 : decode cJ2_indexOf_4cfef 10 = .ok (.ishr, 1) := by decide +kernel
theorem dJ2_indexOf_4cfef_11 : decode cJ2_indexOf_4cfef 11 = .ok (.invokestatic 183, 3) := by decide +kernel
theorem dJ2_indexOf_4cfef_14 : decode cJ2_indexOf_4cfef 14 = .ok (.istore_n 3, 1) := by decide +kernel
theorem dJ2_indexOf_4cfef_15 : decode cJ2_indexOf_4cfef 15 = .ok (.iload_n 2, 1) := by decide +kernel
theorem dJ2_indexOf_4cfef_16 : decode cJ2_indexOf_4cfef 16 = .ok (.iload_n 3, 1) := by decide +kernel
theorem dJ2_indexOf_4cfef_17 : decode cJ2_indexOf_4cfef 17 = .ok (.if_icmp .lt 5, 3) := by decide +kernel
theorem dJ2_indexOf_4cfef_20 : decode cJ2_indexOf_4cfef 20 = .ok (.iconst (-1), 1) := by decide +kernel
theorem dJ2_indexOf_4cfef_21 : decode cJ2_indexOf_4cfef 21 = .ok (.ireturn, 1) := by decide +kernel
theorem dJ2_indexOf_4cfef_22 : decode cJ2_indexOf_4cfef 22 = .ok (.iload_n 1, 1) := by decide +kernel
theorem dJ2_indexOf_4cfef_23 : decode cJ2_indexOf_4cfef 23 = .ok (.ldc 227, 2) := by decide +kernel
theorem dJ2_indexOf_4cfef_25 : decode cJ2_indexOf_4cfef 25 = .ok (.if_icmp .ge 11, 3) := by decide +kernel
theorem dJ2_indexOf_4cfef_28 : decode cJ2_indexOf_4cfef 28 = .ok (.aload_n 0, 1) := by decide +kernel
theorem dJ2_indexOf_4cfef_29 : decode cJ2_indexOf_4cfef 29 = .ok (.iload_n 1, 1) := by decide +kernel
theorem dJ2_indexOf_4cfef_30 : decode cJ2_indexOf_4cfef 30 = .ok (.iload_n 2, 1) := by decide +kernel
theorem dJ2_indexOf_4cfef_31 : decode cJ2_indexOf_4cfef 31 = .ok (.iload_n 3, 1) := by decide +kernel
theorem dJ2_indexOf_4cfef_32 : decode cJ2_indexOf_4cfef 32 = .ok (.invokestatic 228, 3) := by decide +kernel
theorem dJ2_indexOf_4cfef_35 : decode cJ2_indexOf_4cfef 35 = .ok (.ireturn, 1) := by decide +kernel
theorem dJ2_indexOf_4cfef_36 : decode cJ2_indexOf_4cfef 36 = .ok (.aload_n 0, 1) := by decide +kernel
theorem dJ2_indexOf_4cfef_37 : decode cJ2_indexOf_4cfef 37 = .ok (.iload_n 1, 1) := by decide +kernel
theorem dJ2_indexOf_4cfef_38 : decode cJ2_indexOf_4cfef 38 = .ok (.iload_n 2, 1) := by decide +kernel
theorem dJ2_indexOf_4cfef_39 : decode cJ2_indexOf_4cfef 39 = .ok (.iload_n 3, 1) := by decide +kernel
theorem dJ2_indexOf_4cfef_40 : decode cJ2_indexOf_4cfef 40 = .ok (.invokestatic 232, 3) := by decide +kernel
theorem dJ2_indexOf_4cfef_43 : decode cJ2_indexOf_4cfef 43 = .ok (.ireturn, 1) := by decide +kernel
theorem dJ2_indexOfChar_4cfef_0 : decode cJ2_indexOfChar_4cfef 0 = .ok (.iload_n 2, 1) := by decide +kernel
theorem dJ2_indexOfChar_4cfef_1 : decode cJ2_indexOfChar_4cfef 1 = .ok (.iload_n 3, 1) := by decide +kernel
theorem dJ2_indexOfChar_4cfef_2 : decode cJ2_indexOfChar_4cfef 2 = .ok (.aload_n 0, 1) := by decide +kernel
theorem dJ2_indexOfChar_4cfef_3 : decode cJ2_indexOfChar_4cfef 3 = .ok (.invokestatic 96, 3) := by decide +kernel
theorem dJ2_indexOfChar_4cfef_6 : decode cJ2_indexOfChar_4cfef 6 = .ok (.aload_n 0, 1) := by decide +kernel
theorem dJ2_indexOfChar_4cfef_7 : decode cJ2_indexOfChar_4cfef 7 = .ok (.iload_n 1, 1) := by decide +kernel
theorem dJ2_indexOfChar_4cfef_8 : decode cJ2_indexOfChar_4cfef 8 = .ok (.iload_n 2, 1) := by decide +kernel
theorem dJ2_indexOfChar_4cfef_9 : decode cJ2_indexOfChar_4cfef 9 = .ok (.iload_n 3, 1) := by decide +kernel
theorem dJ2_indexOfChar_4cfef_10 : decode cJ2_indexOfChar_4cfef 10 = .ok (.invokestatic 244, 3) := by decide +kernel
theorem dJ2_indexOfChar_4cfef_13 : decode cJ2_indexOfChar_4cfef 13 = .ok (.ireturn, 1) := by decide +kernel
theorem dJ2_indexOfCharUnsafe_4cfef_0 : decode cJ2_indexOfCharUnsafe_4cfef 0 = .ok (.iload_n 2, 1) := by decide +kernel
theorem dJ2_indexOfCharUnsafe_4cfef_1 : decode cJ2_indexOfCharUnsafe_4cfef 1 = .ok (.istore 4, 2) := by decide +kernel
theorem dJ2_indexOfCharUnsafe_4cfef_3 : decode cJ2_indexOfCharUnsafe_4cfef 3 = .ok (.iload 4, 2) := by decide +kernel
theorem dJ2_indexOfCharUnsafe_4cfef_5 : decode cJ2_indexOfCharUnsafe_4cfef 5 = .ok (.iload_n 3, 1) := by decide +kernel
theorem dJ2_indexOfCharUnsafe_4cfef_6 : decode cJ2_indexOfCharUnsafe_4cfef 6 = .ok (.if_icmp .ge 22, 3) := by decide +kernel
theorem dJ2_indexOfCharUnsafe_4cfef_9 : decode cJ2_indexOfCharUnsafe_4cfef 9 = .ok (.aload_n 0, 1) := by decide +kernel
theorem dJ2_indexOfCharUnsafe_4cfef_10 : decode cJ2_indexOfCharUnsafe_4cfef 10 = .ok (.iload 4, 2) := by decide +kernel
theorem dJ2_indexOfCharUnsafe_4cfef_12 : decode cJ2_indexOfCharUnsafe_4cfef 12 = .ok (.invokestatic 71, 3) := by decide +kernel
theorem dJ2_indexOfCharUnsafe_4cfef_15 : decode cJ2_indexOfCharUnsafe_4cfef 15 = .ok (.iload_n 1, 1) := by decide +kernel
theorem dJ2_indexOfCharUnsafe_4cfef_16 : decode cJ2_indexOfCharUnsafe_4cfef 16 = .ok (.if_icmp .ne 6, 3) := by decide +kernel
theorem dJ2_indexOfCharUnsafe_4cfef_19 : decode cJ2_indexOfCharUnsafe_4cfef 19 = .ok (.iload 4, 2) := by decide +kernel
theorem dJ2_indexOfCharUnsafe_4cfef_21 : decode cJ2_indexOfCharUnsafe_4cfef 21 = .ok (.ireturn, 1) := by decide +kernel
theorem dJ2_indexOfCharUnsafe_4cfef_22 : decode cJ2_indexOfCharUnsafe_4cfef 22 = .ok (.iinc 4 1, 3) := by decide +kernel
theorem dJ2_indexOfCharUnsafe_4cfef_25 : decode cJ2_indexOfCharUnsafe_4cfef 25 = .ok (.goto (-22), 3) := by decide +kernel
theorem dJ2_indexOfCharUnsafe_4cfef_28 : decode cJ2_indexOfCharUnsafe_4cfef 28 = .ok (.iconst (-1), 1) := by decide +kernel
theorem dJ2_indexOfCharUnsafe_4cfef_29 : decode cJ2_indexOfCharUnsafe_4cfef 29 = .ok (.ireturn, 1) := by decide +kernel
theorem dJ2_indexOfSupplementary_4cfef_0 : decode cJ2_indexOfSupplementary_4cfef 0 = .ok (.iload_n 1, 1) := by decide +kernel
theorem dJ2_indexOfSupplementary_4cfef_1 : decode cJ2_indexOfSupplementary_4cfef 1 = .ok (.invokestatic 164, 3) := by decide +kernel
theorem dJ2_indexOfSupplementary_4cfef_4 : decode cJ2_indexOfSupplementary_4cfef 4 = .ok (.ifCond .eq 65, 3) := by decide +kernel
theorem dJ2_indexOfSupplementary_4cfef_7 : decode cJ2_indexOfSupplementary_4cfef 7 = .ok (.iload_n 1, 1) := by decide +kernel
theorem dJ2_indexOfSupplementary_4cfef_8 : decode cJ2_indexOfSupplementary_4cfef 8 = .ok (.invokestatic 157, 3) := by decide +kernel
theorem dJ2_indexOfSupplementary_4cfef_11 : decode cJ2_indexOfSupplementary_4cfef 11 = .ok (.istore 4, 2) := by decide +kernel
theorem dJ2_indexOfSupplementary_4cfef_13 : decode cJ2_indexOfSupplementary_4cfef 13 = .ok (.iload_n 1, 1) := by decide +kernel
theorem dJ2_indexOfSupplementary_4cfef_14 : decode cJ2_indexOfSupplementary_4cfef 14 = .ok (.invokestatic 161, 3) := by decide +kernel
theorem dJ2_indexOfSupplementary_4cfef_17 : decode cJ2_indexOfSupplementary_4cfef 17 = .ok (.istore 5, 2) := by decide +kernel
theorem dJ2_indexOfSupplementary_4cfef_19 : decode cJ2_indexOfSupplementary_4cfef 19 = .ok (.iload_n 2, 1) := by decide +kernel
theorem dJ2_indexOfSupplementary_4cfef_20 : decode cJ2_indexOfSupplementary_4cfef 20 = .ok (.iload_n 3, 1) := by decide +kernel
theorem dJ2_indexOfSupplementary_4cfef_21 : decode cJ2_indexOfSupplementary_4cfef 21 = .ok (.aload_n 0, 1) := by decide +kernel
theorem dJ2_indexOfSupplementary_4cfef_22 : decode cJ2_indexOfSupplementary_4cfef 22 = .ok (.invokestatic 96, 3) := by decide +kernel
theorem dJ2_indexOfSupplementary_4cfef_25 : decode cJ2_indexOfSupplementary_4cfef 25 = .ok (.iload_n 2, 1) := by decide +kernel
theorem dJ2_indexOfSupplementary_4cfef_26 : decode cJ2_indexOfSupplementary_4cfef 26 = .ok (.istore 6, 2) := by decide +kernel
theorem dJ2_indexOfSupplementary_4cfef_28 : decode cJ2_indexOfSupplementary_4cfef 28 = .ok (.iload 6, 2) := by decide +kernel
theorem dJ2_indexOfSupplementary_4cfef_30 : decode cJ2_indexOfSupplementary_4cfef 30 = .ok (.iload_n 3, 1) := by decide +kernel
theorem dJ2_indexOfSupplementary_4cfef_31 : decode cJ2_indexOfSupplementary_4cfef 31 = .ok (.iconst 1, 1) := by decide +kernel
theorem dJ2_indexOfSupplementary_4cfef_32 : decode cJ2_indexOfSupplementary_4cfef 32 = .ok (.isub, 1) := by decide +kernel
theorem dJ2_indexOfSupplementary_4cfef_33 : decode cJ2_indexOfSupplementary_4cfef 33 = .ok (.if_icmp .ge 36, 3) := by decide +kernel
theorem dJ2_indexOfSupplementary_4cfef_36 : decode cJ2_indexOfSupplementary_4cfef 36 = .ok (.aload_n 0, 1) := by decide +kernel
theorem dJ2_indexOfSupplementary_4cfef_37 : decode cJ2_indexOfSupplementary_4cfef 37 = .ok (.iload 6, 2) := by decide +kernel
theorem dJ2_indexOfSupplementary_4cfef_39 : decode cJ2_indexOfSupplementary_4cfef 39 = .ok (.invokestatic 71, 3) := by decide +kernel
theorem dJ2_indexOfSupplementary_4cfef_42 : decode cJ2_indexOfSupplementary_4cfef 42 = .ok (.iload 4, 2) := by decide +kernel
theorem dJ2_indexOfSupplementary_4cfef_44 : decode cJ2_indexOfSupplementary_4cfef 44 = .ok (.if_icmp .ne 19, 3) := by decide +kernel
theorem dJ2_indexOfSupplementary_4cfef_47 : decode cJ2_indexOfSupplementary_4cfef 47 = .ok (.aload_n 0, 1) := by decide +kernel
theorem dJ2_indexOfSupplementary_4cfef_48 : decode cJ2_indexOfSupplementary_4cfef 48 = .ok (.iload 6, 2) := by decide +kernel
theorem dJ2_indexOfSupplementary_4cfef_50 : decode cJ2_indexOfSupplementary_4cfef 50 = .ok (.iconst 1, 1) := by decide +kernel
theorem dJ2_indexOfSupplementary_4cfef_51 : decode cJ2_indexOfSupplementary_4cfef 51 = .ok (.iadd, 1) := by decide +kernel
theorem dJ2_indexOfSupplementary_4cfef_52 : decode cJ2_indexOfSupplementary_4cfef 52 = .ok (.invokestatic 71, 3) := by decide +kernel
theorem dJ2_indexOfSupplementary_4cfef_55 : decode cJ2_indexOfSupplementary_4cfef 55 = .ok (.iload 5, 2) := by decide +kernel
theorem dJ2_indexOfSupplementary_4cfef_57 : decode cJ2_indexOfSupplementary_4cfef 57 = .ok (.if_icmp .ne 6, 3) := by decide +kernel
theorem dJ2_indexOfSupplementary_4cfef_60 : decode cJ2_indexOfSupplementary_4cfef 60 = .ok (.iload 6, 2) := by decide +kernel
theorem dJ2_indexOfSupplementary_4cfef_62 : decode cJ2_indexOfSupplementary_4cfef 62 = .ok (.ireturn, 1) := by decide +kernel
theorem dJ2_indexOfSupplementary_4cfef_63 : decode cJ2_indexOfSupplementary_4cfef 63 = .ok (.iinc 6 1, 3) := by decide +kernel
theorem dJ2_indexOfSupplementary_4cfef_66 : decode cJ2_indexOfSupplementary_4cfef 66 = .ok (.goto (-38), 3) := by decide +kernel
theorem dJ2_indexOfSupplementary_4cfef_69 : decode cJ2_indexOfSupplementary_4cfef 69 = .ok (.iconst (-1), 1) := by decide +kernel
theorem dJ2_indexOfSupplementary_4cfef_70 : decode cJ2_indexOfSupplementary_4cfef 70 = .ok (.ireturn, 1) := by decide +kernel
theorem dJ2_charAt_3b067_0 : decode cJ2_charAt_3b067 0 = .ok (.iload_n 1, 1) := by decide +kernel
theorem dJ2_charAt_3b067_1 : decode cJ2_charAt_3b067 1 = .ok (.aload_n 0, 1) := by decide +kernel
theorem dJ2_charAt_3b067_2 : decode cJ2_charAt_3b067 2 = .ok (.invokestatic 67, 3) := by decide +kernel
theorem dJ2_charAt_3b067_5 : decode cJ2_charAt_3b067 5 = .ok (.aload_n 0, 1) := by decide +kernel
theorem dJ2_charAt_3b067_6 : decode cJ2_charAt_3b067 6 = .ok (.iload_n 1, 1) := by decide +kernel
theorem dJ2_charAt_3b067_7 : decode cJ2_charAt_3b067 7 = .ok (.invokestatic 71, 3) := by decide +kernel
theorem dJ2_charAt_3b067_10 : decode cJ2_charAt_3b067 10 = .ok (.ireturn, 1) := by decide +kernel
theorem dJ2_checkIndex_2214a_0 : decode cJ2_checkIndex_2214a 0 = .ok (.iload_n 0, 1) := by decide +kernel
theorem dJ2_checkIndex_2214a_1 : decode cJ2_checkIndex_2214a 1 = .ok (.aload_n 1, 1) := by decide +kernel
theorem dJ2_checkIndex_2214a_2 : decode cJ2_checkIndex_2214a 2 = .ok (.invokestatic 48, 3) := by decide +kernel
theorem dJ2_checkIndex_2214a_5 : decode cJ2_checkIndex_2214a 5 = .ok (.invokestatic 414, 3) := by decide +kernel
theorem dJ2_checkIndex_2214a_8 : decode cJ2_checkIndex_2214a 8 = .ok (.return_, 1) := by decide +kernel
theorem dJ2_checkBoundsBeginEnd_d044e_0 : decode cJ2_checkBoundsBeginEnd_d044e 0 = .ok (.iload_n 0, 1) := by decide +kernel
theorem dJ2_checkBoundsBeginEnd_d044e_1 : decode cJ2_checkBoundsBeginEnd_d044e 1 = .ok (.iload_n 1, 1) := by decide +kernel
theorem dJ2_checkBoundsBeginEnd_d044e_2 : decode cJ2_checkBoundsBeginEnd_d044e 2 = .ok (.aload_n 2, 1) := by decide +kernel
theorem dJ2_checkBoundsBeginEnd_d044e_3 : decode cJ2_checkBoundsBeginEnd_d044e 3 = .ok (.invokestatic 48, 3) := by decide +kernel
theorem dJ2_checkBoundsBeginEnd_d044e_6 : decode cJ2_checkBoundsBeginEnd_d044e 6 = .ok (.invokestatic 241, 3) := by decide +kernel
theorem dJ2_checkBoundsBeginEnd_d044e_9 : decode cJ2_checkBoundsBeginEnd_d044e 9 = .ok (.return_, 1) := by decide +kernel
theorem dJ3_checkIndex_8e157_0 : decode cJ3_checkIndex_8e157 0 = .ok (.iload_n 0, 1) := by decide +kernel
theorem dJ3_checkIndex_8e157_1 : decode cJ3_checkIndex_8e157 1 = .ok (.ifCond .lt 8, 3) := by decide +kernel
theorem dJ3_checkIndex_8e157_4 : decode cJ3_checkIndex_8e157 4 = .ok (.iload_n 0, 1) := by decide +kernel
theorem dJ3_checkIndex_8e157_5 : decode cJ3_checkIndex_8e157 5 = .ok (.iload_n 1, 1) := by decide +kernel
theorem dJ3_checkIndex_8e157_6 : decode cJ3_checkIndex_8e157 6 = .ok (.if_icmp .lt 10, 3) := by decide +kernel
theorem dJ3_checkIndex_8e157_9 : decode cJ3_checkIndex_8e157 9 = .ok (.aload_n 2, 1) := by decide +kernel
theorem dJ3_checkIndex_8e157_10 : decode cJ3_checkIndex_8e157 10 = .ok (.iload_n 0, 1) := by decide +kernel
theorem dJ3_checkIndex_8e157_11 : decode cJ3_checkIndex_8e157 11 = .ok (.iload_n 1, 1) := by decide +kernel
theorem dJ3_checkIndex_8e157_12 : decode cJ3_checkIndex_8e157 12 = .ok (.invokestatic 95, 3) := by decide +kernel
theorem dJ3_checkIndex_8e157_15 : decode cJ3_checkIndex_8e157 15 = .ok (.athrow, 1) := by decide +kernel
theorem dJ3_checkIndex_8e157_16 : decode cJ3_checkIndex_8e157 16 = .ok (.iload_n 0, 1) := by decide +kernel
theorem dJ3_checkIndex_8e157_17 : decode cJ3_checkIndex_8e157 17 = .ok (.ireturn, 1) := by decide +kernel
theorem dJ3_checkFromToIndex_8c36e_0 : decode cJ3_checkFromToIndex_8c36e 0 = .ok (.iload_n 0, 1) := by decide +kernel
theorem dJ3_checkFromToIndex_8c36e_1 : decode cJ3_checkFromToIndex_8c36e 1 = .ok (.ifCond .lt 13, 3) := by decide +kernel
theorem dJ3_checkFromToIndex_8c36e_4 : decode cJ3_checkFromToIndex_8c36e 4 = .ok (.iload_n 0, 1) := by decide +kernel
theorem dJ3_checkFromToIndex_8c36e_5 : decode cJ3_checkFromToIndex_8c36e 5 = .ok (.iload_n 1, 1) := by decide +kernel
theorem dJ3_checkFromToIndex_8c36e_6 : decode cJ3_checkFromToIndex_8c36e 6 = .ok (.if_icmp .gt 8, 3) := by decide +kernel
theorem dJ3_checkFromToIndex_8c36e_9 : decode cJ3_checkFromToIndex_8c36e 9 = .ok (.iload_n 1, 1) := by decide +kernel
theorem dJ3_checkFromToIndex_8c36e_10 : decode cJ3_checkFromToIndex_8c36e 10 = .ok (.iload_n 2, 1) := by decide +kernel
theorem dJ3_checkFromToIndex_8c36e_11 : decode cJ3_checkFromToIndex_8c36e 11 = .ok (.if_icmp .le 11, 3) := by decide +kernel
theorem dJ3_checkFromToIndex_8c36e_14 : decode cJ3_checkFromToIndex_8c36e 14 = .ok (.aload_n 3, 1) := by decide +kernel
theorem dJ3_checkFromToIndex_8c36e_15 : decode cJ3_checkFromToIndex_8c36e 15 = .ok (.iload_n 0, 1) := by decide +kernel
theorem dJ3_checkFromToIndex_8c36e_16 : decode cJ3_checkFromToIndex_8c36e 16 = .ok (.iload_n 1, 1) := by decide +kernel
theorem dJ3_checkFromToIndex_8c36e_17 : decode cJ3_checkFromToIndex_8c36e 17 = .ok (.iload_n 2, 1) := by decide +kernel
theorem dJ3_checkFromToIndex_8c36e_18 : decode cJ3_checkFromToIndex_8c36e 18 = .ok (.invokestatic 99, 3) := by decide +kernel
theorem dJ3_checkFromToIndex_8c36e_21 : decode cJ3_checkFromToIndex_8c36e 21 = .ok (.athrow, 1) := by decide +kernel
theorem dJ3_checkFromToIndex_8c36e_22 : decode cJ3_checkFromToIndex_8c36e 22 = .ok (.iload_n 0, 1) := by decide +kernel
theorem dJ3_checkFromToIndex_8c36e_23 : decode cJ3_checkFromToIndex_8c36e 23 = .ok (.ireturn, 1) := by decide +kernel
theorem dL_watermark_0 : decode cL_watermark 0 = .ok (.aload_n 2, 1) := by decide +kernel
theorem dL_watermark_1 : decode cL_watermark 1 = .ok (.iconst 0, 1) := by decide +kernel
theorem dL_watermark_2 : decode cL_watermark 2 = .ok (.aload_n 0, 1) := by decide +kernel
theorem dL_watermark_3 : decode cL_watermark 3 = .ok (.iload_n 1, 1) := by decide +kernel
theorem dL_watermark_4 : decode cL_watermark 4 = .ok (.invokevirtual 7, 3) := by decide +kernel
theorem dL_watermark_7 : decode cL_watermark 7 = .ok (.lastore, 1) := by decide +kernel
theorem dL_watermark_8 : decode cL_watermark 8 = .ok (.goto 9, 3) := by decide +kernel
theorem dL_watermark_11 : decode cL_watermark 11 = .ok (.astore_n 3, 1) := by decide +kernel
theorem dL_watermark_12 : decode cL_watermark 12 = .ok (.iconst 1, 1) := by decide +kernel
theorem dL_watermark_13 : decode cL_watermark 13 = .ok (.ireturn, 1) := by decide +kernel
theorem dL_watermark_14 : decode cL_watermark 14 = .ok (.astore_n 3, 1) := by decide +kernel
theorem dL_watermark_15 : decode cL_watermark 15 = .ok (.iconst 2, 1) := by decide +kernel
theorem dL_watermark_16 : decode cL_watermark 16 = .ok (.ireturn, 1) := by decide +kernel
theorem dL_watermark_17 : decode cL_watermark 17 = .ok (.iconst 0, 1) := by decide +kernel
theorem dL_watermark_18 : decode cL_watermark 18 = .ok (.ireturn, 1) := by decide +kernel
theorem dL_isIdle_0 : decode cL_isIdle 0 = .ok (.aload_n 2, 1) := by decide +kernel
theorem dL_isIdle_1 : decode cL_isIdle 1 = .ok (.iconst 0, 1) := by decide +kernel
theorem dL_isIdle_2 : decode cL_isIdle 2 = .ok (.aload_n 0, 1) := by decide +kernel
theorem dL_isIdle_3 : decode cL_isIdle 3 = .ok (.iload_n 1, 1) := by decide +kernel
theorem dL_isIdle_4 : decode cL_isIdle 4 = .ok (.invokevirtual 17, 3) := by decide +kernel
theorem dL_isIdle_7 : decode cL_isIdle 7 = .ok (.ifCond .eq 7, 3) := by decide +kernel
theorem dL_isIdle_10 : decode cL_isIdle 10 = .ok (.lconst 1, 1) := by decide +kernel
theorem dL_isIdle_11 : decode cL_isIdle 11 = .ok (.goto 4, 3) := by decide +kernel
theorem dL_isIdle_14 : decode cL_isIdle 14 = .ok (.lconst 0, 1) := by decide +kernel
theorem dL_isIdle_15 : decode cL_isIdle 15 = .ok (.lastore, 1) := by decide +kernel
theorem dL_isIdle_16 : decode cL_isIdle 16 = .ok (.goto 9, 3) := by decide +kernel
theorem dL_isIdle_19 : decode cL_isIdle 19 = .ok (.astore_n 3, 1) := by decide +kernel
theorem dL_isIdle_20 : decode cL_isIdle 20 = .ok (.iconst 1, 1) := by decide +kernel
theorem dL_isIdle_21 : decode cL_isIdle 21 = .ok (.ireturn, 1) := by decide +kernel
theorem dL_isIdle_22 : decode cL_isIdle 22 = .ok (.astore_n 3, 1) := by decide +kernel
theorem dL_isIdle_23 : decode cL_isIdle 23 = .ok (.iconst 2, 1) := by decide +kernel
theorem dL_isIdle_24 : decode cL_isIdle 24 = .ok (.ireturn, 1) := by decide +kernel
theorem dL_isIdle_25 : decode cL_isIdle 25 = .ok (.iconst 0, 1) := by decide +kernel
theorem dL_isIdle_26 : decode cL_isIdle 26 = .ok (.ireturn, 1) := by decide +kernel
theorem dL_promise_0 : decode cL_promise 0 = .ok (.aload_n 3, 1) := by decide +kernel
theorem dL_promise_1 : decode cL_promise 1 = .ok (.iconst 0, 1) := by decide +kernel
theorem dL_promise_2 : decode cL_promise 2 = .ok (.aload_n 0, 1) := by decide +kernel
theorem dL_promise_3 : decode cL_promise 3 = .ok (.iload_n 1, 1) := by decide +kernel
theorem dL_promise_4 : decode cL_promise 4 = .ok (.iload_n 2, 1) := by decide +kernel
theorem dL_promise_5 : decode cL_promise 5 = .ok (.invokevirtual 21, 3) := by decide +kernel
theorem dL_promise_8 : decode cL_promise 8 = .ok (.lastore, 1) := by decide +kernel
theorem dL_promise_9 : decode cL_promise 9 = .ok (.goto 11, 3) := by decide +kernel
theorem dL_promise_12 : decode cL_promise 12 = .ok (.astore 4, 2) := by decide +kernel
theorem dL_promise_14 : decode cL_promise 14 = .ok (.iconst 1, 1) := by decide +kernel
theorem dL_promise_15 : decode cL_promise 15 = .ok (.ireturn, 1) := by decide +kernel
theorem dL_promise_16 : decode cL_promise 16 = .ok (.astore 4, 2) := by decide +kernel
theorem dL_promise_18 : decode cL_promise 18 = .ok (.iconst 2, 1) := by decide +kernel
theorem dL_promise_19 : decode cL_promise 19 = .ok (.ireturn, 1) := by decide +kernel
theorem dL_promise_20 : decode cL_promise 20 = .ok (.iconst 0, 1) := by decide +kernel
theorem dL_promise_21 : decode cL_promise 21 = .ok (.ireturn, 1) := by decide +kernel
theorem dL_kept_0 : decode cL_kept 0 = .ok (.aload_n 3, 1) := by decide +kernel
theorem dL_kept_1 : decode cL_kept 1 = .ok (.iconst 0, 1) := by decide +kernel
theorem dL_kept_2 : decode cL_kept 2 = .ok (.aload_n 0, 1) := by decide +kernel
theorem dL_kept_3 : decode cL_kept 3 = .ok (.iload_n 1, 1) := by decide +kernel
theorem dL_kept_4 : decode cL_kept 4 = .ok (.iload_n 2, 1) := by decide +kernel
theorem dL_kept_5 : decode cL_kept 5 = .ok (.invokevirtual 25, 3) := by decide +kernel
theorem dL_kept_8 : decode cL_kept 8 = .ok (.i2l, 1) := by decide +kernel
theorem dL_kept_9 : decode cL_kept 9 = .ok (.lastore, 1) := by decide +kernel
theorem dL_kept_10 : decode cL_kept 10 = .ok (.goto 11, 3) := by decide +kernel
theorem dL_kept_13 : decode cL_kept 13 = .ok (.astore 4, 2) := by decide +kernel
theorem dL_kept_15 : decode cL_kept 15 = .ok (.iconst 1, 1) := by decide +kernel
theorem dL_kept_16 : decode cL_kept 16 = .ok (.ireturn, 1) := by decide +kernel
theorem dL_kept_17 : decode cL_kept 17 = .ok (.astore 4, 2) := by decide +kernel
theorem dL_kept_19 : decode cL_kept 19 = .ok (.iconst 2, 1) := by decide +kernel
theorem dL_kept_20 : decode cL_kept 20 = .ok (.ireturn, 1) := by decide +kernel
theorem dL_kept_21 : decode cL_kept 21 = .ok (.iconst 0, 1) := by decide +kernel
theorem dL_kept_22 : decode cL_kept 22 = .ok (.ireturn, 1) := by decide +kernel
theorem dL_out_0 : decode cL_out 0 = .ok (.aload_n 3, 1) := by decide +kernel
theorem dL_out_1 : decode cL_out 1 = .ok (.iconst 0, 1) := by decide +kernel
theorem dL_out_2 : decode cL_out 2 = .ok (.aload_n 0, 1) := by decide +kernel
theorem dL_out_3 : decode cL_out 3 = .ok (.iload_n 1, 1) := by decide +kernel
theorem dL_out_4 : decode cL_out 4 = .ok (.iload_n 2, 1) := by decide +kernel
theorem dL_out_5 : decode cL_out 5 = .ok (.invokevirtual 29, 3) := by decide +kernel
theorem dL_out_8 : decode cL_out 8 = .ok (.lastore, 1) := by decide +kernel
theorem dL_out_9 : decode cL_out 9 = .ok (.goto 7, 3) := by decide +kernel
theorem dL_out_12 : decode cL_out 12 = .ok (.astore 4, 2) := by decide +kernel
theorem dL_out_14 : decode cL_out 14 = .ok (.iconst 1, 1) := by decide +kernel
theorem dL_out_15 : decode cL_out 15 = .ok (.ireturn, 1) := by decide +kernel
theorem dL_out_16 : decode cL_out 16 = .ok (.iconst 0, 1) := by decide +kernel
theorem dL_out_17 : decode cL_out 17 = .ok (.ireturn, 1) := by decide +kernel
theorem dL_late_0 : decode cL_late 0 = .ok (.aload_n 3, 1) := by decide +kernel
theorem dL_late_1 : decode cL_late 1 = .ok (.iconst 0, 1) := by decide +kernel
theorem dL_late_2 : decode cL_late 2 = .ok (.aload_n 0, 1) := by decide +kernel
theorem dL_late_3 : decode cL_late 3 = .ok (.iload_n 1, 1) := by decide +kernel
theorem dL_late_4 : decode cL_late 4 = .ok (.iload_n 2, 1) := by decide +kernel
theorem dL_late_5 : decode cL_late 5 = .ok (.invokevirtual 32, 3) := by decide +kernel
theorem dL_late_8 : decode cL_late 8 = .ok (.lastore, 1) := by decide +kernel
theorem dL_late_9 : decode cL_late 9 = .ok (.goto 7, 3) := by decide +kernel
theorem dL_late_12 : decode cL_late 12 = .ok (.astore 4, 2) := by decide +kernel
theorem dL_late_14 : decode cL_late 14 = .ok (.iconst 1, 1) := by decide +kernel
theorem dL_late_15 : decode cL_late 15 = .ok (.ireturn, 1) := by decide +kernel
theorem dL_late_16 : decode cL_late 16 = .ok (.iconst 0, 1) := by decide +kernel
theorem dL_late_17 : decode cL_late 17 = .ok (.ireturn, 1) := by decide +kernel
theorem dL_law_0 : decode cL_law 0 = .ok (.new 8, 3) := by decide +kernel
theorem dL_law_3 : decode cL_law 3 = .ok (.dup, 1) := by decide +kernel
theorem dL_law_4 : decode cL_law 4 = .ok (.invokespecial 35, 3) := by decide +kernel
theorem dL_law_7 : decode cL_law 7 = .ok (.astore_n 1, 1) := by decide +kernel
theorem dL_law_8 : decode cL_law 8 = .ok (.new 36, 3) := by decide +kernel
theorem dL_law_11 : decode cL_law 11 = .ok (.dup, 1) := by decide +kernel
theorem dL_law_12 : decode cL_law 12 = .ok (.invokespecial 38, 3) := by decide +kernel
theorem dL_law_15 : decode cL_law 15 = .ok (.astore_n 2, 1) := by decide +kernel
theorem dL_law_16 : decode cL_law 16 = .ok (.iconst 1, 1) := by decide +kernel
theorem dL_law_17 : decode cL_law 17 = .ok (.newarray .long, 2) := by decide +kernel
theorem dL_law_19 : decode cL_law 19 = .ok (.astore_n 3, 1) := by decide +kernel
theorem dL_law_20 : decode cL_law 20 = .ok (.iconst 0, 1) := by decide +kernel
theorem dL_law_21 : decode cL_law 21 = .ok (.istore 4, 2) := by decide +kernel
theorem dL_law_23 : decode cL_law 23 = .ok (.iload 4, 2) := by decide +kernel
theorem dL_law_25 : decode cL_law 25 = .ok (.aload_n 0, 1) := by decide +kernel
theorem dL_law_26 : decode cL_law 26 = .ok (.arraylength, 1) := by decide +kernel
theorem dL_law_27 : decode cL_law 27 = .ok (.bipush 6, 2) := by decide +kernel
theorem dL_law_29 : decode cL_law 29 = .ok (.isub, 1) := by decide +kernel
theorem dL_law_30 : decode cL_law 30 = .ok (.if_icmp .gt 1129, 3) := by decide +kernel
theorem dL_law_33 : decode cL_law 33 = .ok (.aload_n 0, 1) := by decide +kernel
theorem dL_law_34 : decode cL_law 34 = .ok (.iload 4, 2) := by decide +kernel
theorem dL_law_36 : decode cL_law 36 = .ok (.iaload, 1) := by decide +kernel
theorem dL_law_37 : decode cL_law 37 = .ok (.bipush 31, 2) := by decide +kernel
theorem dL_law_39 : decode cL_law 39 = .ok (.iand, 1) := by decide +kernel
theorem dL_law_40 : decode cL_law 40 = .ok (.tableswitch 1113 0 19 #[96, 165, 178, 191, 284, 365, 402, 467, 492, 561, 626, 681, 744, 811, 848, 916, 983, 1050, 1075, 1088], 96) := by decide +kernel
theorem dL_law_136 : decode cL_law 136 = .ok (.aload_n 1, 1) := by decide +kernel
theorem dL_law_137 : decode cL_law 137 = .ok (.aload_n 0, 1) := by decide +kernel
theorem dL_law_138 : decode cL_law 138 = .ok (.iload 4, 2) := by decide +kernel
theorem dL_law_140 : decode cL_law 140 = .ok (.iconst 1, 1) := by decide +kernel
theorem dL_law_141 : decode cL_law 141 = .ok (.iadd, 1) := by decide +kernel
theorem dL_law_142 : decode cL_law 142 = .ok (.iaload, 1) := by decide +kernel
theorem dL_law_143 : decode cL_law 143 = .ok (.i2l, 1) := by decide +kernel
theorem dL_law_144 : decode cL_law 144 = .ok (.bipush 32, 2) := by decide +kernel
theorem dL_law_146 : decode cL_law 146 = .ok (.lshl, 1) := by decide +kernel
theorem dL_law_147 : decode cL_law 147 = .ok (.aload_n 0, 1) := by decide +kernel
theorem dL_law_148 : decode cL_law 148 = .ok (.iload 4, 2) := by decide +kernel
theorem dL_law_150 : decode cL_law 150 = .ok (.iconst 2, 1) := by decide +kernel
theorem dL_law_151 : decode cL_law 151 = .ok (.iadd, 1) := by decide +kernel
theorem dL_law_152 : decode cL_law 152 = .ok (.iaload, 1) := by decide +kernel
theorem dL_law_153 : decode cL_law 153 = .ok (.i2l, 1) := by decide +kernel
theorem dL_law_154 : decode cL_law 154 = .ok (.ldc2_w 39, 3) := by decide +kernel
theorem dL_law_157 : decode cL_law 157 = .ok (.land, 1) := by decide +kernel
theorem dL_law_158 : decode cL_law 158 = .ok (.lor, 1) := by decide +kernel
theorem dL_law_159 : decode cL_law 159 = .ok (.aload_n 0, 1) := by decide +kernel
theorem dL_law_160 : decode cL_law 160 = .ok (.iload 4, 2) := by decide +kernel
theorem dL_law_162 : decode cL_law 162 = .ok (.iconst 3, 1) := by decide +kernel
theorem dL_law_163 : decode cL_law 163 = .ok (.iadd, 1) := by decide +kernel
theorem dL_law_164 : decode cL_law 164 = .ok (.iaload, 1) := by decide +kernel
theorem dL_law_165 : decode cL_law 165 = .ok (.invokevirtual 41, 3) := by decide +kernel
theorem dL_law_168 : decode cL_law 168 = .ok (.aload_n 2, 1) := by decide +kernel
theorem dL_law_169 : decode cL_law 169 = .ok (.aload_n 0, 1) := by decide +kernel
theorem dL_law_170 : decode cL_law 170 = .ok (.iload 4, 2) := by decide +kernel
theorem dL_law_172 : decode cL_law 172 = .ok (.iconst 1, 1) := by decide +kernel
theorem dL_law_173 : decode cL_law 173 = .ok (.iadd, 1) := by decide +kernel
theorem dL_law_174 : decode cL_law 174 = .ok (.iaload, 1) := by decide +kernel
theorem dL_law_175 : decode cL_law 175 = .ok (.i2l, 1) := by decide +kernel
theorem dL_law_176 : decode cL_law 176 = .ok (.bipush 32, 2) := by decide +kernel
theorem dL_law_178 : decode cL_law 178 = .ok (.lshl, 1) := by decide +kernel
theorem dL_law_179 : decode cL_law 179 = .ok (.aload_n 0, 1) := by decide +kernel
theorem dL_law_180 : decode cL_law 180 = .ok (.iload 4, 2) := by decide +kernel
theorem dL_law_182 : decode cL_law 182 = .ok (.iconst 2, 1) := by decide +kernel
theorem dL_law_183 : decode cL_law 183 = .ok (.iadd, 1) := by decide +kernel
theorem dL_law_184 : decode cL_law 184 = .ok (.iaload, 1) := by decide +kernel
theorem dL_law_185 : decode cL_law 185 = .ok (.i2l, 1) := by decide +kernel
theorem dL_law_186 : decode cL_law 186 = .ok (.ldc2_w 39, 3) := by decide +kernel
theorem dL_law_189 : decode cL_law 189 = .ok (.land, 1) := by decide +kernel
theorem dL_law_190 : decode cL_law 190 = .ok (.lor, 1) := by decide +kernel
theorem dL_law_191 : decode cL_law 191 = .ok (.aload_n 0, 1) := by decide +kernel
theorem dL_law_192 : decode cL_law 192 = .ok (.iload 4, 2) := by decide +kernel
theorem dL_law_194 : decode cL_law 194 = .ok (.iconst 3, 1) := by decide +kernel
theorem dL_law_195 : decode cL_law 195 = .ok (.iadd, 1) := by decide +kernel
theorem dL_law_196 : decode cL_law 196 = .ok (.iaload, 1) := by decide +kernel
theorem dL_law_197 : decode cL_law 197 = .ok (.invokevirtual 45, 3) := by decide +kernel
theorem dL_law_200 : decode cL_law 200 = .ok (.if_icmp .eq 953, 3) := by decide +kernel
theorem dL_law_203 : decode cL_law 203 = .ok (.iconst 0, 1) := by decide +kernel
theorem dL_law_204 : decode cL_law 204 = .ok (.ireturn, 1) := by decide +kernel
theorem dL_law_205 : decode cL_law 205 = .ok (.aload_n 1, 1) := by decide +kernel
theorem dL_law_206 : decode cL_law 206 = .ok (.invokevirtual 46, 3) := by decide +kernel
theorem dL_law_209 : decode cL_law 209 = .ok (.aload_n 2, 1) := by decide +kernel
theorem dL_law_210 : decode cL_law 210 = .ok (.invokevirtual 50, 3) := by decide +kernel
theorem dL_law_213 : decode cL_law 213 = .ok (.if_icmp .eq 940, 3) := by decide +kernel
theorem dL_law_216 : decode cL_law 216 = .ok (.iconst 0, 1) := by decide +kernel
theorem dL_law_217 : decode cL_law 217 = .ok (.ireturn, 1) := by decide +kernel
theorem dL_law_218 : decode cL_law 218 = .ok (.aload_n 1, 1) := by decide +kernel
theorem dL_law_219 : decode cL_law 219 = .ok (.invokevirtual 51, 3) := by decide +kernel
theorem dL_law_222 : decode cL_law 222 = .ok (.aload_n 2, 1) := by decide +kernel
theorem dL_law_223 : decode cL_law 223 = .ok (.invokevirtual 54, 3) := by decide +kernel
theorem dL_law_226 : decode cL_law 226 = .ok (.if_icmp .eq 927, 3) := by decide +kernel
theorem dL_law_229 : decode cL_law 229 = .ok (.iconst 0, 1) := by decide +kernel
theorem dL_law_230 : decode cL_law 230 = .ok (.ireturn, 1) := by decide +kernel
theorem dL_law_231 : decode cL_law 231 = .ok (.aload_n 1, 1) := by decide +kernel
theorem dL_law_232 : decode cL_law 232 = .ok (.aload_n 0, 1) := by decide +kernel
theorem dL_law_233 : decode cL_law 233 = .ok (.iload 4, 2) := by decide +kernel
theorem dL_law_235 : decode cL_law 235 = .ok (.iconst 1, 1) := by decide +kernel
theorem dL_law_236 : decode cL_law 236 = .ok (.iadd, 1) := by decide +kernel
theorem dL_law_237 : decode cL_law 237 = .ok (.iaload, 1) := by decide +kernel
theorem dL_law_238 : decode cL_law 238 = .ok (.aload_n 0, 1) := by decide +kernel
theorem dL_law_239 : decode cL_law 239 = .ok (.iload 4, 2) := by decide +kernel
theorem dL_law_241 : decode cL_law 241 = .ok (.iconst 2, 1) := by decide +kernel
theorem dL_law_242 : decode cL_law 242 = .ok (.iadd, 1) := by decide +kernel
theorem dL_law_243 : decode cL_law 243 = .ok (.iaload, 1) := by decide +kernel
theorem dL_law_244 : decode cL_law 244 = .ok (.aload_n 0, 1) := by decide +kernel
theorem dL_law_245 : decode cL_law 245 = .ok (.iload 4, 2) := by decide +kernel
theorem dL_law_247 : decode cL_law 247 = .ok (.iconst 3, 1) := by decide +kernel
theorem dL_law_248 : decode cL_law 248 = .ok (.iadd, 1) := by decide +kernel
theorem dL_law_249 : decode cL_law 249 = .ok (.iaload, 1) := by decide +kernel
theorem dL_law_250 : decode cL_law 250 = .ok (.i2l, 1) := by decide +kernel
theorem dL_law_251 : decode cL_law 251 = .ok (.bipush 32, 2) := by decide +kernel
theorem dL_law_253 : decode cL_law 253 = .ok (.lshl, 1) := by decide +kernel
theorem dL_law_254 : decode cL_law 254 = .ok (.aload_n 0, 1) := by decide +kernel
theorem dL_law_255 : decode cL_law 255 = .ok (.iload 4, 2) := by decide +kernel
theorem dL_law_257 : decode cL_law 257 = .ok (.iconst 4, 1) := by decide +kernel
theorem dL_law_258 : decode cL_law 258 = .ok (.iadd, 1) := by decide +kernel
theorem dL_law_259 : decode cL_law 259 = .ok (.iaload, 1) := by decide +kernel
theorem dL_law_260 : decode cL_law 260 = .ok (.i2l, 1) := by decide +kernel
theorem dL_law_261 : decode cL_law 261 = .ok (.ldc2_w 39, 3) := by decide +kernel
theorem dL_law_264 : decode cL_law 264 = .ok (.land, 1) := by decide +kernel
theorem dL_law_265 : decode cL_law 265 = .ok (.lor, 1) := by decide +kernel
theorem dL_law_266 : decode cL_law 266 = .ok (.aload_n 0, 1) := by decide +kernel
theorem dL_law_267 : decode cL_law 267 = .ok (.iload 4, 2) := by decide +kernel
theorem dL_law_269 : decode cL_law 269 = .ok (.iconst 5, 1) := by decide +kernel
theorem dL_law_270 : decode cL_law 270 = .ok (.iadd, 1) := by decide +kernel
theorem dL_law_271 : decode cL_law 271 = .ok (.iaload, 1) := by decide +kernel
theorem dL_law_272 : decode cL_law 272 = .ok (.invokevirtual 55, 3) := by decide +kernel
theorem dL_law_275 : decode cL_law 275 = .ok (.aload_n 2, 1) := by decide +kernel
theorem dL_law_276 : decode cL_law 276 = .ok (.aload_n 0, 1) := by decide +kernel
theorem dL_law_277 : decode cL_law 277 = .ok (.iload 4, 2) := by decide +kernel
theorem dL_law_279 : decode cL_law 279 = .ok (.iconst 1, 1) := by decide +kernel
theorem dL_law_280 : decode cL_law 280 = .ok (.iadd, 1) := by decide +kernel
theorem dL_law_281 : decode cL_law 281 = .ok (.iaload, 1) := by decide +kernel
theorem dL_law_282 : decode cL_law 282 = .ok (.aload_n 0, 1) := by decide +kernel
theorem dL_law_283 : decode cL_law 283 = .ok (.iload 4, 2) := by decide +kernel
theorem dL_law_285 : decode cL_law 285 = .ok (.iconst 2, 1) := by decide +kernel
theorem dL_law_286 : decode cL_law 286 = .ok (.iadd, 1) := by decide +kernel
theorem dL_law_287 : decode cL_law 287 = .ok (.iaload, 1) := by decide +kernel
theorem dL_law_288 : decode cL_law 288 = .ok (.aload_n 0, 1) := by decide +kernel
theorem dL_law_289 : decode cL_law 289 = .ok (.iload 4, 2) := by decide +kernel
theorem dL_law_291 : decode cL_law 291 = .ok (.iconst 3, 1) := by decide +kernel
theorem dL_law_292 : decode cL_law 292 = .ok (.iadd, 1) := by decide +kernel
theorem dL_law_293 : decode cL_law 293 = .ok (.iaload, 1) := by decide +kernel
theorem dL_law_294 : decode cL_law 294 = .ok (.i2l, 1) := by decide +kernel
theorem dL_law_295 : decode cL_law 295 = .ok (.bipush 32, 2) := by decide +kernel
theorem dL_law_297 : decode cL_law 297 = .ok (.lshl, 1) := by decide +kernel
theorem dL_law_298 : decode cL_law 298 = .ok (.aload_n 0, 1) := by decide +kernel
theorem dL_law_299 : decode cL_law 299 = .ok (.iload 4, 2) := by decide +kernel
theorem dL_law_301 : decode cL_law 301 = .ok (.iconst 4, 1) := by decide +kernel
theorem dL_law_302 : decode cL_law 302 = .ok (.iadd, 1) := by decide +kernel
theorem dL_law_303 : decode cL_law 303 = .ok (.iaload, 1) := by decide +kernel
theorem dL_law_304 : decode cL_law 304 = .ok (.i2l, 1) := by decide +kernel
theorem dL_law_305 : decode cL_law 305 = .ok (.ldc2_w 39, 3) := by decide +kernel
theorem dL_law_308 : decode cL_law 308 = .ok (.land, 1) := by decide +kernel
theorem dL_law_309 : decode cL_law 309 = .ok (.lor, 1) := by decide +kernel
theorem dL_law_310 : decode cL_law 310 = .ok (.aload_n 0, 1) := by decide +kernel
theorem dL_law_311 : decode cL_law 311 = .ok (.iload 4, 2) := by decide +kernel
theorem dL_law_313 : decode cL_law 313 = .ok (.iconst 5, 1) := by decide +kernel
theorem dL_law_314 : decode cL_law 314 = .ok (.iadd, 1) := by decide +kernel
theorem dL_law_315 : decode cL_law 315 = .ok (.iaload, 1) := by decide +kernel
theorem dL_law_316 : decode cL_law 316 = .ok (.invokevirtual 59, 3) := by decide +kernel
theorem dL_law_319 : decode cL_law 319 = .ok (.if_icmp .eq 834, 3) := by decide +kernel
theorem dL_law_322 : decode cL_law 322 = .ok (.iconst 0, 1) := by decide +kernel
theorem dL_law_323 : decode cL_law 323 = .ok (.ireturn, 1) := by decide +kernel
theorem dL_law_324 : decode cL_law 324 = .ok (.aload_n 1, 1) := by decide +kernel
theorem dL_law_325 : decode cL_law 325 = .ok (.aload_n 0, 1) := by decide +kernel
theorem dL_law_326 : decode cL_law 326 = .ok (.iload 4, 2) := by decide +kernel
theorem dL_law_328 : decode cL_law 328 = .ok (.iconst 1, 1) := by decide +kernel
theorem dL_law_329 : decode cL_law 329 = .ok (.iadd, 1) := by decide +kernel
theorem dL_law_330 : decode cL_law 330 = .ok (.iaload, 1) := by decide +kernel
theorem dL_law_331 : decode cL_law 331 = .ok (.aload_n 0, 1) := by decide +kernel
theorem dL_law_332 : decode cL_law 332 = .ok (.iload 4, 2) := by decide +kernel
theorem dL_law_334 : decode cL_law 334 = .ok (.iconst 2, 1) := by decide +kernel
theorem dL_law_335 : decode cL_law 335 = .ok (.iadd, 1) := by decide +kernel
theorem dL_law_336 : decode cL_law 336 = .ok (.iaload, 1) := by decide +kernel
theorem dL_law_337 : decode cL_law 337 = .ok (.aload_n 0, 1) := by decide +kernel
theorem dL_law_338 : decode cL_law 338 = .ok (.iload 4, 2) := by decide +kernel
theorem dL_law_340 : decode cL_law 340 = .ok (.iconst 3, 1) := by decide +kernel
theorem dL_law_341 : decode cL_law 341 = .ok (.iadd, 1) := by decide +kernel
theorem dL_law_342 : decode cL_law 342 = .ok (.iaload, 1) := by decide +kernel
theorem dL_law_343 : decode cL_law 343 = .ok (.i2l, 1) := by decide +kernel
theorem dL_law_344 : decode cL_law 344 = .ok (.bipush 32, 2) := by decide +kernel
theorem dL_law_346 : decode cL_law 346 = .ok (.lshl, 1) := by decide +kernel
theorem dL_law_347 : decode cL_law 347 = .ok (.aload_n 0, 1) := by decide +kernel
theorem dL_law_348 : decode cL_law 348 = .ok (.iload 4, 2) := by decide +kernel
theorem dL_law_350 : decode cL_law 350 = .ok (.iconst 4, 1) := by decide +kernel
theorem dL_law_351 : decode cL_law 351 = .ok (.iadd, 1) := by decide +kernel
theorem dL_law_352 : decode cL_law 352 = .ok (.iaload, 1) := by decide +kernel
theorem dL_law_353 : decode cL_law 353 = .ok (.i2l, 1) := by decide +kernel
theorem dL_law_354 : decode cL_law 354 = .ok (.ldc2_w 39, 3) := by decide +kernel
theorem dL_law_357 : decode cL_law 357 = .ok (.land, 1) := by decide +kernel
theorem dL_law_358 : decode cL_law 358 = .ok (.lor, 1) := by decide +kernel
theorem dL_law_359 : decode cL_law 359 = .ok (.invokevirtual 60, 3) := by decide +kernel
theorem dL_law_362 : decode cL_law 362 = .ok (.aload_n 2, 1) := by decide +kernel
theorem dL_law_363 : decode cL_law 363 = .ok (.aload_n 0, 1) := by decide +kernel
theorem dL_law_364 : decode cL_law 364 = .ok (.iload 4, 2) := by decide +kernel
theorem dL_law_366 : decode cL_law 366 = .ok (.iconst 1, 1) := by decide +kernel
theorem dL_law_367 : decode cL_law 367 = .ok (.iadd, 1) := by decide +kernel
theorem dL_law_368 : decode cL_law 368 = .ok (.iaload, 1) := by decide +kernel
theorem dL_law_369 : decode cL_law 369 = .ok (.aload_n 0, 1) := by decide +kernel
theorem dL_law_370 : decode cL_law 370 = .ok (.iload 4, 2) := by decide +kernel
theorem dL_law_372 : decode cL_law 372 = .ok (.iconst 2, 1) := by decide +kernel
theorem dL_law_373 : decode cL_law 373 = .ok (.iadd, 1) := by decide +kernel
theorem dL_law_374 : decode cL_law 374 = .ok (.iaload, 1) := by decide +kernel
theorem dL_law_375 : decode cL_law 375 = .ok (.aload_n 0, 1) := by decide +kernel
theorem dL_law_376 : decode cL_law 376 = .ok (.iload 4, 2) := by decide +kernel
theorem dL_law_378 : decode cL_law 378 = .ok (.iconst 3, 1) := by decide +kernel
theorem dL_law_379 : decode cL_law 379 = .ok (.iadd, 1) := by decide +kernel
theorem dL_law_380 : decode cL_law 380 = .ok (.iaload, 1) := by decide +kernel
theorem dL_law_381 : decode cL_law 381 = .ok (.i2l, 1) := by decide +kernel
theorem dL_law_382 : decode cL_law 382 = .ok (.bipush 32, 2) := by decide +kernel
theorem dL_law_384 : decode cL_law 384 = .ok (.lshl, 1) := by decide +kernel
theorem dL_law_385 : decode cL_law 385 = .ok (.aload_n 0, 1) := by decide +kernel
theorem dL_law_386 : decode cL_law 386 = .ok (.iload 4, 2) := by decide +kernel
theorem dL_law_388 : decode cL_law 388 = .ok (.iconst 4, 1) := by decide +kernel
theorem dL_law_389 : decode cL_law 389 = .ok (.iadd, 1) := by decide +kernel
theorem dL_law_390 : decode cL_law 390 = .ok (.iaload, 1) := by decide +kernel
theorem dL_law_391 : decode cL_law 391 = .ok (.i2l, 1) := by decide +kernel
theorem dL_law_392 : decode cL_law 392 = .ok (.ldc2_w 39, 3) := by decide +kernel
theorem dL_law_395 : decode cL_law 395 = .ok (.land, 1) := by decide +kernel
theorem dL_law_396 : decode cL_law 396 = .ok (.lor, 1) := by decide +kernel
theorem dL_law_397 : decode cL_law 397 = .ok (.invokevirtual 64, 3) := by decide +kernel
theorem dL_law_400 : decode cL_law 400 = .ok (.if_icmp .eq 753, 3) := by decide +kernel
theorem dL_law_403 : decode cL_law 403 = .ok (.iconst 0, 1) := by decide +kernel
theorem dL_law_404 : decode cL_law 404 = .ok (.ireturn, 1) := by decide +kernel
theorem dL_law_405 : decode cL_law 405 = .ok (.aload_n 1, 1) := by decide +kernel
theorem dL_law_406 : decode cL_law 406 = .ok (.aload_n 0, 1) := by decide +kernel
theorem dL_law_407 : decode cL_law 407 = .ok (.iload 4, 2) := by decide +kernel
theorem dL_law_409 : decode cL_law 409 = .ok (.iconst 1, 1) := by decide +kernel
theorem dL_law_410 : decode cL_law 410 = .ok (.iadd, 1) := by decide +kernel
theorem dL_law_411 : decode cL_law 411 = .ok (.iaload, 1) := by decide +kernel
theorem dL_law_412 : decode cL_law 412 = .ok (.aload_n 0, 1) := by decide +kernel
theorem dL_law_413 : decode cL_law 413 = .ok (.iload 4, 2) := by decide +kernel
theorem dL_law_415 : decode cL_law 415 = .ok (.iconst 2, 1) := by decide +kernel
theorem dL_law_416 : decode cL_law 416 = .ok (.iadd, 1) := by decide +kernel
theorem dL_law_417 : decode cL_law 417 = .ok (.iaload, 1) := by decide +kernel
theorem dL_law_418 : decode cL_law 418 = .ok (.invokevirtual 65, 3) := by decide +kernel
theorem dL_law_421 : decode cL_law 421 = .ok (.aload_n 2, 1) := by decide +kernel
theorem dL_law_422 : decode cL_law 422 = .ok (.aload_n 0, 1) := by decide +kernel
theorem dL_law_423 : decode cL_law 423 = .ok (.iload 4, 2) := by decide +kernel
theorem dL_law_425 : decode cL_law 425 = .ok (.iconst 1, 1) := by decide +kernel
theorem dL_law_426 : decode cL_law 426 = .ok (.iadd, 1) := by decide +kernel
theorem dL_law_427 : decode cL_law 427 = .ok (.iaload, 1) := by decide +kernel
theorem dL_law_428 : decode cL_law 428 = .ok (.aload_n 0, 1) := by decide +kernel
theorem dL_law_429 : decode cL_law 429 = .ok (.iload 4, 2) := by decide +kernel
theorem dL_law_431 : decode cL_law 431 = .ok (.iconst 2, 1) := by decide +kernel
theorem dL_law_432 : decode cL_law 432 = .ok (.iadd, 1) := by decide +kernel
theorem dL_law_433 : decode cL_law 433 = .ok (.iaload, 1) := by decide +kernel
theorem dL_law_434 : decode cL_law 434 = .ok (.invokevirtual 68, 3) := by decide +kernel
theorem dL_law_437 : decode cL_law 437 = .ok (.if_icmp .eq 716, 3) := by decide +kernel
theorem dL_law_440 : decode cL_law 440 = .ok (.iconst 0, 1) := by decide +kernel
theorem dL_law_441 : decode cL_law 441 = .ok (.ireturn, 1) := by decide +kernel
theorem dL_law_442 : decode cL_law 442 = .ok (.aload_n 1, 1) := by decide +kernel
theorem dL_law_443 : decode cL_law 443 = .ok (.aload_n 0, 1) := by decide +kernel
theorem dL_law_444 : decode cL_law 444 = .ok (.iload 4, 2) := by decide +kernel
theorem dL_law_446 : decode cL_law 446 = .ok (.iconst 1, 1) := by decide +kernel
theorem dL_law_447 : decode cL_law 447 = .ok (.iadd, 1) := by decide +kernel
theorem dL_law_448 : decode cL_law 448 = .ok (.iaload, 1) := by decide +kernel
theorem dL_law_449 : decode cL_law 449 = .ok (.aload_n 0, 1) := by decide +kernel
theorem dL_law_450 : decode cL_law 450 = .ok (.iload 4, 2) := by decide +kernel
theorem dL_law_452 : decode cL_law 452 = .ok (.iconst 2, 1) := by decide +kernel
theorem dL_law_453 : decode cL_law 453 = .ok (.iadd, 1) := by decide +kernel
theorem dL_law_454 : decode cL_law 454 = .ok (.iaload, 1) := by decide +kernel
theorem dL_law_455 : decode cL_law 455 = .ok (.aload_n 0, 1) := by decide +kernel
theorem dL_law_456 : decode cL_law 456 = .ok (.iload 4, 2) := by decide +kernel
theorem dL_law_458 : decode cL_law 458 = .ok (.iconst 3, 1) := by decide +kernel
theorem dL_law_459 : decode cL_law 459 = .ok (.iadd, 1) := by decide +kernel
theorem dL_law_460 : decode cL_law 460 = .ok (.iaload, 1) := by decide +kernel
theorem dL_law_461 : decode cL_law 461 = .ok (.ifCond .eq 7, 3) := by decide +kernel
theorem dL_law_464 : decode cL_law 464 = .ok (.iconst 1, 1) := by decide +kernel
theorem dL_law_465 : decode cL_law 465 = .ok (.goto 4, 3) := by decide +kernel
theorem dL_law_468 : decode cL_law 468 = .ok (.iconst 0, 1) := by decide +kernel
theorem dL_law_469 : decode cL_law 469 = .ok (.invokevirtual 69, 3) := by decide +kernel
theorem dL_law_472 : decode cL_law 472 = .ok (.aload_n 2, 1) := by decide +kernel
theorem dL_law_473 : decode cL_law 473 = .ok (.aload_n 0, 1) := by decide +kernel
theorem dL_law_474 : decode cL_law 474 = .ok (.iload 4, 2) := by decide +kernel
theorem dL_law_476 : decode cL_law 476 = .ok (.iconst 1, 1) := by decide +kernel
theorem dL_law_477 : decode cL_law 477 = .ok (.iadd, 1) := by decide +kernel
theorem dL_law_478 : decode cL_law 478 = .ok (.iaload, 1) := by decide +kernel
theorem dL_law_479 : decode cL_law 479 = .ok (.aload_n 0, 1) := by decide +kernel
theorem dL_law_480 : decode cL_law 480 = .ok (.iload 4, 2) := by decide +kernel
theorem dL_law_482 : decode cL_law 482 = .ok (.iconst 2, 1) := by decide +kernel
theorem dL_law_483 : decode cL_law 483 = .ok (.iadd, 1) := by decide +kernel
theorem dL_law_484 : decode cL_law 484 = .ok (.iaload, 1) := by decide +kernel
theorem dL_law_485 : decode cL_law 485 = .ok (.aload_n 0, 1) := by decide +kernel
theorem dL_law_486 : decode cL_law 486 = .ok (.iload 4, 2) := by decide +kernel
theorem dL_law_488 : decode cL_law 488 = .ok (.iconst 3, 1) := by decide +kernel
theorem dL_law_489 : decode cL_law 489 = .ok (.iadd, 1) := by decide +kernel
theorem dL_law_490 : decode cL_law 490 = .ok (.iaload, 1) := by decide +kernel
theorem dL_law_491 : decode cL_law 491 = .ok (.ifCond .eq 7, 3) := by decide +kernel
theorem dL_law_494 : decode cL_law 494 = .ok (.iconst 1, 1) := by decide +kernel
theorem dL_law_495 : decode cL_law 495 = .ok (.goto 4, 3) := by decide +kernel
theorem dL_law_498 : decode cL_law 498 = .ok (.iconst 0, 1) := by decide +kernel
theorem dL_law_499 : decode cL_law 499 = .ok (.invokevirtual 73, 3) := by decide +kernel
theorem dL_law_502 : decode cL_law 502 = .ok (.if_icmp .eq 651, 3) := by decide +kernel
theorem dL_law_505 : decode cL_law 505 = .ok (.iconst 0, 1) := by decide +kernel
theorem dL_law_506 : decode cL_law 506 = .ok (.ireturn, 1) := by decide +kernel
theorem dL_law_507 : decode cL_law 507 = .ok (.aload_n 1, 1) := by decide +kernel
theorem dL_law_508 : decode cL_law 508 = .ok (.aload_n 0, 1) := by decide +kernel
theorem dL_law_509 : decode cL_law 509 = .ok (.iload 4, 2) := by decide +kernel
theorem dL_law_511 : decode cL_law 511 = .ok (.iconst 1, 1) := by decide +kernel
theorem dL_law_512 : decode cL_law 512 = .ok (.iadd, 1) := by decide +kernel
theorem dL_law_513 : decode cL_law 513 = .ok (.iaload, 1) := by decide +kernel
theorem dL_law_514 : decode cL_law 514 = .ok (.invokevirtual 74, 3) := by decide +kernel
theorem dL_law_517 : decode cL_law 517 = .ok (.aload_n 2, 1) := by decide +kernel
theorem dL_law_518 : decode cL_law 518 = .ok (.aload_n 0, 1) := by decide +kernel
theorem dL_law_519 : decode cL_law 519 = .ok (.iload 4, 2) := by decide +kernel
theorem dL_law_521 : decode cL_law 521 = .ok (.iconst 1, 1) := by decide +kernel
theorem dL_law_522 : decode cL_law 522 = .ok (.iadd, 1) := by decide +kernel
theorem dL_law_523 : decode cL_law 523 = .ok (.iaload, 1) := by decide +kernel
theorem dL_law_524 : decode cL_law 524 = .ok (.invokevirtual 78, 3) := by decide +kernel
theorem dL_law_527 : decode cL_law 527 = .ok (.if_icmp .eq 626, 3) := by decide +kernel
theorem dL_law_530 : decode cL_law 530 = .ok (.iconst 0, 1) := by decide +kernel
theorem dL_law_531 : decode cL_law 531 = .ok (.ireturn, 1) := by decide +kernel
theorem dL_law_532 : decode cL_law 532 = .ok (.aload_n 1, 1) := by decide +kernel
theorem dL_law_533 : decode cL_law 533 = .ok (.aload_n 0, 1) := by decide +kernel
theorem dL_law_534 : decode cL_law 534 = .ok (.iload 4, 2) := by decide +kernel
theorem dL_law_536 : decode cL_law 536 = .ok (.iconst 1, 1) := by decide +kernel
theorem dL_law_537 : decode cL_law 537 = .ok (.iadd, 1) := by decide +kernel
theorem dL_law_538 : decode cL_law 538 = .ok (.iaload, 1) := by decide +kernel
theorem dL_law_539 : decode cL_law 539 = .ok (.aload_n 0, 1) := by decide +kernel
theorem dL_law_540 : decode cL_law 540 = .ok (.iload 4, 2) := by decide +kernel
theorem dL_law_542 : decode cL_law 542 = .ok (.iconst 2, 1) := by decide +kernel
theorem dL_law_543 : decode cL_law 543 = .ok (.iadd, 1) := by decide +kernel
theorem dL_law_544 : decode cL_law 544 = .ok (.iaload, 1) := by decide +kernel
theorem dL_law_545 : decode cL_law 545 = .ok (.i2l, 1) := by decide +kernel
theorem dL_law_546 : decode cL_law 546 = .ok (.bipush 32, 2) := by decide +kernel
theorem dL_law_548 : decode cL_law 548 = .ok (.lshl, 1) := by decide +kernel
theorem dL_law_549 : decode cL_law 549 = .ok (.aload_n 0, 1) := by decide +kernel
theorem dL_law_550 : decode cL_law 550 = .ok (.iload 4, 2) := by decide +kernel
theorem dL_law_552 : decode cL_law 552 = .ok (.iconst 3, 1) := by decide +kernel
theorem dL_law_553 : decode cL_law 553 = .ok (.iadd, 1) := by decide +kernel
theorem dL_law_554 : decode cL_law 554 = .ok (.iaload, 1) := by decide +kernel
theorem dL_law_555 : decode cL_law 555 = .ok (.i2l, 1) := by decide +kernel
theorem dL_law_556 : decode cL_law 556 = .ok (.ldc2_w 39, 3) := by decide +kernel
theorem dL_law_559 : decode cL_law 559 = .ok (.land, 1) := by decide +kernel
theorem dL_law_560 : decode cL_law 560 = .ok (.lor, 1) := by decide +kernel
theorem dL_law_561 : decode cL_law 561 = .ok (.invokevirtual 79, 3) := by decide +kernel
theorem dL_law_564 : decode cL_law 564 = .ok (.aload_n 2, 1) := by decide +kernel
theorem dL_law_565 : decode cL_law 565 = .ok (.aload_n 0, 1) := by decide +kernel
theorem dL_law_566 : decode cL_law 566 = .ok (.iload 4, 2) := by decide +kernel
theorem dL_law_568 : decode cL_law 568 = .ok (.iconst 1, 1) := by decide +kernel
theorem dL_law_569 : decode cL_law 569 = .ok (.iadd, 1) := by decide +kernel
theorem dL_law_570 : decode cL_law 570 = .ok (.iaload, 1) := by decide +kernel
theorem dL_law_571 : decode cL_law 571 = .ok (.aload_n 0, 1) := by decide +kernel
theorem dL_law_572 : decode cL_law 572 = .ok (.iload 4, 2) := by decide +kernel
theorem dL_law_574 : decode cL_law 574 = .ok (.iconst 2, 1) := by decide +kernel
theorem dL_law_575 : decode cL_law 575 = .ok (.iadd, 1) := by decide +kernel
theorem dL_law_576 : decode cL_law 576 = .ok (.iaload, 1) := by decide +kernel
theorem dL_law_577 : decode cL_law 577 = .ok (.i2l, 1) := by decide +kernel
theorem dL_law_578 : decode cL_law 578 = .ok (.bipush 32, 2) := by decide +kernel
theorem dL_law_580 : decode cL_law 580 = .ok (.lshl, 1) := by decide +kernel
theorem dL_law_581 : decode cL_law 581 = .ok (.aload_n 0, 1) := by decide +kernel
theorem dL_law_582 : decode cL_law 582 = .ok (.iload 4, 2) := by decide +kernel
theorem dL_law_584 : decode cL_law 584 = .ok (.iconst 3, 1) := by decide +kernel
theorem dL_law_585 : decode cL_law 585 = .ok (.iadd, 1) := by decide +kernel
theorem dL_law_586 : decode cL_law 586 = .ok (.iaload, 1) := by decide +kernel
theorem dL_law_587 : decode cL_law 587 = .ok (.i2l, 1) := by decide +kernel
theorem dL_law_588 : decode cL_law 588 = .ok (.ldc2_w 39, 3) := by decide +kernel
theorem dL_law_591 : decode cL_law 591 = .ok (.land, 1) := by decide +kernel
theorem dL_law_592 : decode cL_law 592 = .ok (.lor, 1) := by decide +kernel
theorem dL_law_593 : decode cL_law 593 = .ok (.invokevirtual 83, 3) := by decide +kernel
theorem dL_law_596 : decode cL_law 596 = .ok (.if_icmp .eq 557, 3) := by decide +kernel
theorem dL_law_599 : decode cL_law 599 = .ok (.iconst 0, 1) := by decide +kernel
theorem dL_law_600 : decode cL_law 600 = .ok (.ireturn, 1) := by decide +kernel
theorem dL_law_601 : decode cL_law 601 = .ok (.aload_n 1, 1) := by decide +kernel
theorem dL_law_602 : decode cL_law 602 = .ok (.aload_n 0, 1) := by decide +kernel
theorem dL_law_603 : decode cL_law 603 = .ok (.iload 4, 2) := by decide +kernel
theorem dL_law_605 : decode cL_law 605 = .ok (.iconst 1, 1) := by decide +kernel
theorem dL_law_606 : decode cL_law 606 = .ok (.iadd, 1) := by decide +kernel
theorem dL_law_607 : decode cL_law 607 = .ok (.iaload, 1) := by decide +kernel
theorem dL_law_608 : decode cL_law 608 = .ok (.aload_n 0, 1) := by decide +kernel
theorem dL_law_609 : decode cL_law 609 = .ok (.iload 4, 2) := by decide +kernel
theorem dL_law_611 : decode cL_law 611 = .ok (.iconst 2, 1) := by decide +kernel
theorem dL_law_612 : decode cL_law 612 = .ok (.iadd, 1) := by decide +kernel
theorem dL_law_613 : decode cL_law 613 = .ok (.iaload, 1) := by decide +kernel
theorem dL_law_614 : decode cL_law 614 = .ok (.ifCond .eq 7, 3) := by decide +kernel
theorem dL_law_617 : decode cL_law 617 = .ok (.iconst 1, 1) := by decide +kernel
theorem dL_law_618 : decode cL_law 618 = .ok (.goto 4, 3) := by decide +kernel
theorem dL_law_621 : decode cL_law 621 = .ok (.iconst 0, 1) := by decide +kernel
theorem dL_law_622 : decode cL_law 622 = .ok (.aload_n 0, 1) := by decide +kernel
theorem dL_law_623 : decode cL_law 623 = .ok (.iload 4, 2) := by decide +kernel
theorem dL_law_625 : decode cL_law 625 = .ok (.iconst 3, 1) := by decide +kernel
theorem dL_law_626 : decode cL_law 626 = .ok (.iadd, 1) := by decide +kernel
theorem dL_law_627 : decode cL_law 627 = .ok (.iaload, 1) := by decide +kernel
theorem dL_law_628 : decode cL_law 628 = .ok (.invokevirtual 84, 3) := by decide +kernel
theorem dL_law_631 : decode cL_law 631 = .ok (.aload_n 2, 1) := by decide +kernel
theorem dL_law_632 : decode cL_law 632 = .ok (.aload_n 0, 1) := by decide +kernel
theorem dL_law_633 : decode cL_law 633 = .ok (.iload 4, 2) := by decide +kernel
theorem dL_law_635 : decode cL_law 635 = .ok (.iconst 1, 1) := by decide +kernel
theorem dL_law_636 : decode cL_law 636 = .ok (.iadd, 1) := by decide +kernel
theorem dL_law_637 : decode cL_law 637 = .ok (.iaload, 1) := by decide +kernel
theorem dL_law_638 : decode cL_law 638 = .ok (.aload_n 0, 1) := by decide +kernel
theorem dL_law_639 : decode cL_law 639 = .ok (.iload 4, 2) := by decide +kernel
theorem dL_law_641 : decode cL_law 641 = .ok (.iconst 2, 1) := by decide +kernel
theorem dL_law_642 : decode cL_law 642 = .ok (.iadd, 1) := by decide +kernel
theorem dL_law_643 : decode cL_law 643 = .ok (.iaload, 1) := by decide +kernel
theorem dL_law_644 : decode cL_law 644 = .ok (.ifCond .eq 7, 3) := by decide +kernel
theorem dL_law_647 : decode cL_law 647 = .ok (.iconst 1, 1) := by decide +kernel
theorem dL_law_648 : decode cL_law 648 = .ok (.goto 4, 3) := by decide +kernel
theorem dL_law_651 : decode cL_law 651 = .ok (.iconst 0, 1) := by decide +kernel
theorem dL_law_652 : decode cL_law 652 = .ok (.aload_n 0, 1) := by decide +kernel
theorem dL_law_653 : decode cL_law 653 = .ok (.iload 4, 2) := by decide +kernel
theorem dL_law_655 : decode cL_law 655 = .ok (.iconst 3, 1) := by decide +kernel
theorem dL_law_656 : decode cL_law 656 = .ok (.iadd, 1) := by decide +kernel
theorem dL_law_657 : decode cL_law 657 = .ok (.iaload, 1) := by decide +kernel
theorem dL_law_658 : decode cL_law 658 = .ok (.invokevirtual 88, 3) := by decide +kernel
theorem dL_law_661 : decode cL_law 661 = .ok (.if_icmp .eq 492, 3) := by decide +kernel
theorem dL_law_664 : decode cL_law 664 = .ok (.iconst 0, 1) := by decide +kernel
theorem dL_law_665 : decode cL_law 665 = .ok (.ireturn, 1) := by decide +kernel
theorem dL_law_666 : decode cL_law 666 = .ok (.aload_n 1, 1) := by decide +kernel
theorem dL_law_667 : decode cL_law 667 = .ok (.aload_n 0, 1) := by decide +kernel
theorem dL_law_668 : decode cL_law 668 = .ok (.iload 4, 2) := by decide +kernel
theorem dL_law_670 : decode cL_law 670 = .ok (.iconst 1, 1) := by decide +kernel
theorem dL_law_671 : decode cL_law 671 = .ok (.iadd, 1) := by decide +kernel
theorem dL_law_672 : decode cL_law 672 = .ok (.iaload, 1) := by decide +kernel
theorem dL_law_673 : decode cL_law 673 = .ok (.aload_n 3, 1) := by decide +kernel
theorem dL_law_674 : decode cL_law 674 = .ok (.invokestatic 89, 3) := by decide +kernel
theorem dL_law_677 : decode cL_law 677 = .ok (.istore 5, 2) := by decide +kernel
theorem dL_law_679 : decode cL_law 679 = .ok (.aload_n 2, 1) := by decide +kernel
theorem dL_law_680 : decode cL_law 680 = .ok (.aload_n 0, 1) := by decide +kernel
theorem dL_law_681 : decode cL_law 681 = .ok (.iload 4, 2) := by decide +kernel
theorem dL_law_683 : decode cL_law 683 = .ok (.iconst 1, 1) := by decide +kernel
theorem dL_law_684 : decode cL_law 684 = .ok (.iadd, 1) := by decide +kernel
theorem dL_law_685 : decode cL_law 685 = .ok (.iaload, 1) := by decide +kernel
theorem dL_law_686 : decode cL_law 686 = .ok (.invokevirtual 94, 3) := by decide +kernel
theorem dL_law_689 : decode cL_law 689 = .ok (.lstore 6, 2) := by decide +kernel
theorem dL_law_691 : decode cL_law 691 = .ok (.aload_n 2, 1) := by decide +kernel
theorem dL_law_692 : decode cL_law 692 = .ok (.invokevirtual 95, 3) := by decide +kernel
theorem dL_law_695 : decode cL_law 695 = .ok (.iload 5, 2) := by decide +kernel
theorem dL_law_697 : decode cL_law 697 = .ok (.if_icmp .eq 5, 3) := by decide +kernel
theorem dL_law_700 : decode cL_law 700 = .ok (.iconst 0, 1) := by decide +kernel
theorem dL_law_701 : decode cL_law 701 = .ok (.ireturn, 1) := by decide +kernel
theorem dL_law_702 : decode cL_law 702 = .ok (.iload 5, 2) := by decide +kernel
theorem dL_law_704 : decode cL_law 704 = .ok (.ifCond .ne 14, 3) := by decide +kernel
theorem dL_law_707 : decode cL_law 707 = .ok (.aload_n 3, 1) := by decide +kernel
theorem dL_law_708 : decode cL_law 708 = .ok (.iconst 0, 1) := by decide +kernel
theorem dL_law_709 : decode cL_law 709 = .ok (.laload, 1) := by decide +kernel
theorem dL_law_710 : decode cL_law 710 = .ok (.lload 6, 2) := by decide +kernel
theorem dL_law_712 : decode cL_law 712 = .ok (.lcmp, 1) := by decide +kernel
theorem dL_law_713 : decode cL_law 713 = .ok (.ifCond .eq 5, 3) := by decide +kernel
theorem dL_law_716 : decode cL_law 716 = .ok (.iconst 0, 1) := by decide +kernel
theorem dL_law_717 : decode cL_law 717 = .ok (.ireturn, 1) := by decide +kernel
theorem dL_law_718 : decode cL_law 718 = .ok (.goto 435, 3) := by decide +kernel
theorem dL_law_721 : decode cL_law 721 = .ok (.aload_n 1, 1) := by decide +kernel
theorem dL_law_722 : decode cL_law 722 = .ok (.aload_n 0, 1) := by decide +kernel
theorem dL_law_723 : decode cL_law 723 = .ok (.iload 4, 2) := by decide +kernel
theorem dL_law_725 : decode cL_law 725 = .ok (.iconst 1, 1) := by decide +kernel
theorem dL_law_726 : decode cL_law 726 = .ok (.iadd, 1) := by decide +kernel
theorem dL_law_727 : decode cL_law 727 = .ok (.iaload, 1) := by decide +kernel
theorem dL_law_728 : decode cL_law 728 = .ok (.aload_n 3, 1) := by decide +kernel
theorem dL_law_729 : decode cL_law 729 = .ok (.invokestatic 98, 3) := by decide +kernel
theorem dL_law_732 : decode cL_law 732 = .ok (.istore 5, 2) := by decide +kernel
theorem dL_law_734 : decode cL_law 734 = .ok (.aload_n 2, 1) := by decide +kernel
theorem dL_law_735 : decode cL_law 735 = .ok (.aload_n 0, 1) := by decide +kernel
theorem dL_law_736 : decode cL_law 736 = .ok (.iload 4, 2) := by decide +kernel
theorem dL_law_738 : decode cL_law 738 = .ok (.iconst 1, 1) := by decide +kernel
theorem dL_law_739 : decode cL_law 739 = .ok (.iadd, 1) := by decide +kernel
theorem dL_law_740 : decode cL_law 740 = .ok (.iaload, 1) := by decide +kernel
theorem dL_law_741 : decode cL_law 741 = .ok (.invokevirtual 100, 3) := by decide +kernel
theorem dL_law_744 : decode cL_law 744 = .ok (.istore 6, 2) := by decide +kernel
theorem dL_law_746 : decode cL_law 746 = .ok (.aload_n 2, 1) := by decide +kernel
theorem dL_law_747 : decode cL_law 747 = .ok (.invokevirtual 95, 3) := by decide +kernel
theorem dL_law_750 : decode cL_law 750 = .ok (.iload 5, 2) := by decide +kernel
theorem dL_law_752 : decode cL_law 752 = .ok (.if_icmp .eq 5, 3) := by decide +kernel
theorem dL_law_755 : decode cL_law 755 = .ok (.iconst 0, 1) := by decide +kernel
theorem dL_law_756 : decode cL_law 756 = .ok (.ireturn, 1) := by decide +kernel
theorem dL_law_757 : decode cL_law 757 = .ok (.iload 5, 2) := by decide +kernel
theorem dL_law_759 : decode cL_law 759 = .ok (.ifCond .ne 22, 3) := by decide +kernel
theorem dL_law_762 : decode cL_law 762 = .ok (.aload_n 3, 1) := by decide +kernel
theorem dL_law_763 : decode cL_law 763 = .ok (.iconst 0, 1) := by decide +kernel
theorem dL_law_764 : decode cL_law 764 = .ok (.laload, 1) := by decide +kernel
theorem dL_law_765 : decode cL_law 765 = .ok (.iload 6, 2) := by decide +kernel
theorem dL_law_767 : decode cL_law 767 = .ok (.ifCond .eq 7, 3) := by decide +kernel
theorem dL_law_770 : decode cL_law 770 = .ok (.lconst 1, 1) := by decide +kernel
theorem dL_law_771 : decode cL_law 771 = .ok (.goto 4, 3) := by decide +kernel
theorem dL_law_774 : decode cL_law 774 = .ok (.lconst 0, 1) := by decide +kernel
theorem dL_law_775 : decode cL_law 775 = .ok (.lcmp, 1) := by decide +kernel
theorem dL_law_776 : decode cL_law 776 = .ok (.ifCond .eq 5, 3) := by decide +kernel
theorem dL_law_779 : decode cL_law 779 = .ok (.iconst 0, 1) := by decide +kernel
theorem dL_law_780 : decode cL_law 780 = .ok (.ireturn, 1) := by decide +kernel
theorem dL_law_781 : decode cL_law 781 = .ok (.goto 372, 3) := by decide +kernel
theorem dL_law_784 : decode cL_law 784 = .ok (.aload_n 1, 1) := by decide +kernel
theorem dL_law_785 : decode cL_law 785 = .ok (.aload_n 0, 1) := by decide +kernel
theorem dL_law_786 : decode cL_law 786 = .ok (.iload 4, 2) := by decide +kernel
theorem dL_law_788 : decode cL_law 788 = .ok (.iconst 1, 1) := by decide +kernel
theorem dL_law_789 : decode cL_law 789 = .ok (.iadd, 1) := by decide +kernel
theorem dL_law_790 : decode cL_law 790 = .ok (.iaload, 1) := by decide +kernel
theorem dL_law_791 : decode cL_law 791 = .ok (.aload_n 0, 1) := by decide +kernel
theorem dL_law_792 : decode cL_law 792 = .ok (.iload 4, 2) := by decide +kernel
theorem dL_law_794 : decode cL_law 794 = .ok (.iconst 2, 1) := by decide +kernel
theorem dL_law_795 : decode cL_law 795 = .ok (.iadd, 1) := by decide +kernel
theorem dL_law_796 : decode cL_law 796 = .ok (.iaload, 1) := by decide +kernel
theorem dL_law_797 : decode cL_law 797 = .ok (.aload_n 3, 1) := by decide +kernel
theorem dL_law_798 : decode cL_law 798 = .ok (.invokestatic 101, 3) := by decide +kernel
theorem dL_law_801 : decode cL_law 801 = .ok (.istore 5, 2) := by decide +kernel
theorem dL_law_803 : decode cL_law 803 = .ok (.aload_n 2, 1) := by decide +kernel
theorem dL_law_804 : decode cL_law 804 = .ok (.aload_n 0, 1) := by decide +kernel
theorem dL_law_805 : decode cL_law 805 = .ok (.iload 4, 2) := by decide +kernel
theorem dL_law_807 : decode cL_law 807 = .ok (.iconst 1, 1) := by decide +kernel
theorem dL_law_808 : decode cL_law 808 = .ok (.iadd, 1) := by decide +kernel
theorem dL_law_809 : decode cL_law 809 = .ok (.iaload, 1) := by decide +kernel
theorem dL_law_810 : decode cL_law 810 = .ok (.aload_n 0, 1) := by decide +kernel
theorem dL_law_811 : decode cL_law 811 = .ok (.iload 4, 2) := by decide +kernel
theorem dL_law_813 : decode cL_law 813 = .ok (.iconst 2, 1) := by decide +kernel
theorem dL_law_814 : decode cL_law 814 = .ok (.iadd, 1) := by decide +kernel
theorem dL_law_815 : decode cL_law 815 = .ok (.iaload, 1) := by decide +kernel
theorem dL_law_816 : decode cL_law 816 = .ok (.invokevirtual 104, 3) := by decide +kernel
theorem dL_law_819 : decode cL_law 819 = .ok (.lstore 6, 2) := by decide +kernel
theorem dL_law_821 : decode cL_law 821 = .ok (.aload_n 2, 1) := by decide +kernel
theorem dL_law_822 : decode cL_law 822 = .ok (.invokevirtual 95, 3) := by decide +kernel
theorem dL_law_825 : decode cL_law 825 = .ok (.iload 5, 2) := by decide +kernel
theorem dL_law_827 : decode cL_law 827 = .ok (.if_icmp .eq 5, 3) := by decide +kernel
theorem dL_law_830 : decode cL_law 830 = .ok (.iconst 0, 1) := by decide +kernel
theorem dL_law_831 : decode cL_law 831 = .ok (.ireturn, 1) := by decide +kernel
theorem dL_law_832 : decode cL_law 832 = .ok (.iload 5, 2) := by decide +kernel
theorem dL_law_834 : decode cL_law 834 = .ok (.ifCond .ne 14, 3) := by decide +kernel
theorem dL_law_837 : decode cL_law 837 = .ok (.aload_n 3, 1) := by decide +kernel
theorem dL_law_838 : decode cL_law 838 = .ok (.iconst 0, 1) := by decide +kernel
theorem dL_law_839 : decode cL_law 839 = .ok (.laload, 1) := by decide +kernel
theorem dL_law_840 : decode cL_law 840 = .ok (.lload 6, 2) := by decide +kernel
theorem dL_law_842 : decode cL_law 842 = .ok (.lcmp, 1) := by decide +kernel
theorem dL_law_843 : decode cL_law 843 = .ok (.ifCond .eq 5, 3) := by decide +kernel
theorem dL_law_846 : decode cL_law 846 = .ok (.iconst 0, 1) := by decide +kernel
theorem dL_law_847 : decode cL_law 847 = .ok (.ireturn, 1) := by decide +kernel
theorem dL_law_848 : decode cL_law 848 = .ok (.goto 305, 3) := by decide +kernel
theorem dL_law_851 : decode cL_law 851 = .ok (.aload_n 1, 1) := by decide +kernel
theorem dL_law_852 : decode cL_law 852 = .ok (.aload_n 0, 1) := by decide +kernel
theorem dL_law_853 : decode cL_law 853 = .ok (.iload 4, 2) := by decide +kernel
theorem dL_law_855 : decode cL_law 855 = .ok (.iconst 1, 1) := by decide +kernel
theorem dL_law_856 : decode cL_law 856 = .ok (.iadd, 1) := by decide +kernel
theorem dL_law_857 : decode cL_law 857 = .ok (.iaload, 1) := by decide +kernel
theorem dL_law_858 : decode cL_law 858 = .ok (.aload_n 0, 1) := by decide +kernel
theorem dL_law_859 : decode cL_law 859 = .ok (.iload 4, 2) := by decide +kernel
theorem dL_law_861 : decode cL_law 861 = .ok (.iconst 2, 1) := by decide +kernel
theorem dL_law_862 : decode cL_law 862 = .ok (.iadd, 1) := by decide +kernel
theorem dL_law_863 : decode cL_law 863 = .ok (.iaload, 1) := by decide +kernel
theorem dL_law_864 : decode cL_law 864 = .ok (.invokevirtual 105, 3) := by decide +kernel
theorem dL_law_867 : decode cL_law 867 = .ok (.aload_n 2, 1) := by decide +kernel
theorem dL_law_868 : decode cL_law 868 = .ok (.aload_n 0, 1) := by decide +kernel
theorem dL_law_869 : decode cL_law 869 = .ok (.iload 4, 2) := by decide +kernel
theorem dL_law_871 : decode cL_law 871 = .ok (.iconst 1, 1) := by decide +kernel
theorem dL_law_872 : decode cL_law 872 = .ok (.iadd, 1) := by decide +kernel
theorem dL_law_873 : decode cL_law 873 = .ok (.iaload, 1) := by decide +kernel
theorem dL_law_874 : decode cL_law 874 = .ok (.aload_n 0, 1) := by decide +kernel
theorem dL_law_875 : decode cL_law 875 = .ok (.iload 4, 2) := by decide +kernel
theorem dL_law_877 : decode cL_law 877 = .ok (.iconst 2, 1) := by decide +kernel
theorem dL_law_878 : decode cL_law 878 = .ok (.iadd, 1) := by decide +kernel
theorem dL_law_879 : decode cL_law 879 = .ok (.iaload, 1) := by decide +kernel
theorem dL_law_880 : decode cL_law 880 = .ok (.invokevirtual 108, 3) := by decide +kernel
theorem dL_law_883 : decode cL_law 883 = .ok (.if_icmp .eq 270, 3) := by decide +kernel
theorem dL_law_886 : decode cL_law 886 = .ok (.iconst 0, 1) := by decide +kernel
theorem dL_law_887 : decode cL_law 887 = .ok (.ireturn, 1) := by decide +kernel
theorem dL_law_888 : decode cL_law 888 = .ok (.aload_n 1, 1) := by decide +kernel
theorem dL_law_889 : decode cL_law 889 = .ok (.aload_n 0, 1) := by decide +kernel
theorem dL_law_890 : decode cL_law 890 = .ok (.iload 4, 2) := by decide +kernel
theorem dL_law_892 : decode cL_law 892 = .ok (.iconst 1, 1) := by decide +kernel
theorem dL_law_893 : decode cL_law 893 = .ok (.iadd, 1) := by decide +kernel
theorem dL_law_894 : decode cL_law 894 = .ok (.iaload, 1) := by decide +kernel
theorem dL_law_895 : decode cL_law 895 = .ok (.aload_n 0, 1) := by decide +kernel
theorem dL_law_896 : decode cL_law 896 = .ok (.iload 4, 2) := by decide +kernel
theorem dL_law_898 : decode cL_law 898 = .ok (.iconst 2, 1) := by decide +kernel
theorem dL_law_899 : decode cL_law 899 = .ok (.iadd, 1) := by decide +kernel
theorem dL_law_900 : decode cL_law 900 = .ok (.iaload, 1) := by decide +kernel
theorem dL_law_901 : decode cL_law 901 = .ok (.aload_n 3, 1) := by decide +kernel
theorem dL_law_902 : decode cL_law 902 = .ok (.invokestatic 109, 3) := by decide +kernel
theorem dL_law_905 : decode cL_law 905 = .ok (.istore 5, 2) := by decide +kernel
theorem dL_law_907 : decode cL_law 907 = .ok (.aload_n 2, 1) := by decide +kernel
theorem dL_law_908 : decode cL_law 908 = .ok (.aload_n 0, 1) := by decide +kernel
theorem dL_law_909 : decode cL_law 909 = .ok (.iload 4, 2) := by decide +kernel
theorem dL_law_911 : decode cL_law 911 = .ok (.iconst 1, 1) := by decide +kernel
theorem dL_law_912 : decode cL_law 912 = .ok (.iadd, 1) := by decide +kernel
theorem dL_law_913 : decode cL_law 913 = .ok (.iaload, 1) := by decide +kernel
theorem dL_law_914 : decode cL_law 914 = .ok (.aload_n 0, 1) := by decide +kernel
theorem dL_law_915 : decode cL_law 915 = .ok (.iload 4, 2) := by decide +kernel
theorem dL_law_917 : decode cL_law 917 = .ok (.iconst 2, 1) := by decide +kernel
theorem dL_law_918 : decode cL_law 918 = .ok (.iadd, 1) := by decide +kernel
theorem dL_law_919 : decode cL_law 919 = .ok (.iaload, 1) := by decide +kernel
theorem dL_law_920 : decode cL_law 920 = .ok (.invokevirtual 111, 3) := by decide +kernel
theorem dL_law_923 : decode cL_law 923 = .ok (.istore 6, 2) := by decide +kernel
theorem dL_law_925 : decode cL_law 925 = .ok (.aload_n 2, 1) := by decide +kernel
theorem dL_law_926 : decode cL_law 926 = .ok (.invokevirtual 95, 3) := by decide +kernel
theorem dL_law_929 : decode cL_law 929 = .ok (.iload 5, 2) := by decide +kernel
theorem dL_law_931 : decode cL_law 931 = .ok (.if_icmp .eq 5, 3) := by decide +kernel
theorem dL_law_934 : decode cL_law 934 = .ok (.iconst 0, 1) := by decide +kernel
theorem dL_law_935 : decode cL_law 935 = .ok (.ireturn, 1) := by decide +kernel
theorem dL_law_936 : decode cL_law 936 = .ok (.iload 5, 2) := by decide +kernel
theorem dL_law_938 : decode cL_law 938 = .ok (.ifCond .ne 15, 3) := by decide +kernel
theorem dL_law_941 : decode cL_law 941 = .ok (.aload_n 3, 1) := by decide +kernel
theorem dL_law_942 : decode cL_law 942 = .ok (.iconst 0, 1) := by decide +kernel
theorem dL_law_943 : decode cL_law 943 = .ok (.laload, 1) := by decide +kernel
theorem dL_law_944 : decode cL_law 944 = .ok (.iload 6, 2) := by decide +kernel
theorem dL_law_946 : decode cL_law 946 = .ok (.i2l, 1) := by decide +kernel
theorem dL_law_947 : decode cL_law 947 = .ok (.lcmp, 1) := by decide +kernel
theorem dL_law_948 : decode cL_law 948 = .ok (.ifCond .eq 5, 3) := by decide +kernel
theorem dL_law_951 : decode cL_law 951 = .ok (.iconst 0, 1) := by decide +kernel
theorem dL_law_952 : decode cL_law 952 = .ok (.ireturn, 1) := by decide +kernel
theorem dL_law_953 : decode cL_law 953 = .ok (.goto 200, 3) := by decide +kernel
theorem dL_law_956 : decode cL_law 956 = .ok (.aload_n 1, 1) := by decide +kernel
theorem dL_law_957 : decode cL_law 957 = .ok (.aload_n 0, 1) := by decide +kernel
theorem dL_law_958 : decode cL_law 958 = .ok (.iload 4, 2) := by decide +kernel
theorem dL_law_960 : decode cL_law 960 = .ok (.iconst 1, 1) := by decide +kernel
theorem dL_law_961 : decode cL_law 961 = .ok (.iadd, 1) := by decide +kernel
theorem dL_law_962 : decode cL_law 962 = .ok (.iaload, 1) := by decide +kernel
theorem dL_law_963 : decode cL_law 963 = .ok (.aload_n 0, 1) := by decide +kernel
theorem dL_law_964 : decode cL_law 964 = .ok (.iload 4, 2) := by decide +kernel
theorem dL_law_966 : decode cL_law 966 = .ok (.iconst 2, 1) := by decide +kernel
theorem dL_law_967 : decode cL_law 967 = .ok (.iadd, 1) := by decide +kernel
theorem dL_law_968 : decode cL_law 968 = .ok (.iaload, 1) := by decide +kernel
theorem dL_law_969 : decode cL_law 969 = .ok (.aload_n 3, 1) := by decide +kernel
theorem dL_law_970 : decode cL_law 970 = .ok (.invokestatic 112, 3) := by decide +kernel
theorem dL_law_973 : decode cL_law 973 = .ok (.istore 5, 2) := by decide +kernel
theorem dL_law_975 : decode cL_law 975 = .ok (.aload_n 2, 1) := by decide +kernel
theorem dL_law_976 : decode cL_law 976 = .ok (.aload_n 0, 1) := by decide +kernel
theorem dL_law_977 : decode cL_law 977 = .ok (.iload 4, 2) := by decide +kernel
theorem dL_law_979 : decode cL_law 979 = .ok (.iconst 1, 1) := by decide +kernel
theorem dL_law_980 : decode cL_law 980 = .ok (.iadd, 1) := by decide +kernel
theorem dL_law_981 : decode cL_law 981 = .ok (.iaload, 1) := by decide +kernel
theorem dL_law_982 : decode cL_law 982 = .ok (.aload_n 0, 1) := by decide +kernel
theorem dL_law_983 : decode cL_law 983 = .ok (.iload 4, 2) := by decide +kernel
theorem dL_law_985 : decode cL_law 985 = .ok (.iconst 2, 1) := by decide +kernel
theorem dL_law_986 : decode cL_law 986 = .ok (.iadd, 1) := by decide +kernel
theorem dL_law_987 : decode cL_law 987 = .ok (.iaload, 1) := by decide +kernel
theorem dL_law_988 : decode cL_law 988 = .ok (.invokevirtual 114, 3) := by decide +kernel
theorem dL_law_991 : decode cL_law 991 = .ok (.lstore 6, 2) := by decide +kernel
theorem dL_law_993 : decode cL_law 993 = .ok (.aload_n 2, 1) := by decide +kernel
theorem dL_law_994 : decode cL_law 994 = .ok (.invokevirtual 95, 3) := by decide +kernel
theorem dL_law_997 : decode cL_law 997 = .ok (.iload 5, 2) := by decide +kernel
theorem dL_law_999 : decode cL_law 999 = .ok (.if_icmp .eq 5, 3) := by decide +kernel
theorem dL_law_1002 : decode cL_law 1002 = .ok (.iconst 0, 1) := by decide +kernel
theorem dL_law_1003 : decode cL_law 1003 = .ok (.ireturn, 1) := by decide +kernel
theorem dL_law_1004 : decode cL_law 1004 = .ok (.iload 5, 2) := by decide +kernel
theorem dL_law_1006 : decode cL_law 1006 = .ok (.ifCond .ne 14, 3) := by decide +kernel
theorem dL_law_1009 : decode cL_law 1009 = .ok (.aload_n 3, 1) := by decide +kernel
theorem dL_law_1010 : decode cL_law 1010 = .ok (.iconst 0, 1) := by decide +kernel
theorem dL_law_1011 : decode cL_law 1011 = .ok (.laload, 1) := by decide +kernel
theorem dL_law_1012 : decode cL_law 1012 = .ok (.lload 6, 2) := by decide +kernel
theorem dL_law_1014 : decode cL_law 1014 = .ok (.lcmp, 1) := by decide +kernel
theorem dL_law_1015 : decode cL_law 1015 = .ok (.ifCond .eq 5, 3) := by decide +kernel
theorem dL_law_1018 : decode cL_law 1018 = .ok (.iconst 0, 1) := by decide +kernel
theorem dL_law_1019 : decode cL_law 1019 = .ok (.ireturn, 1) := by decide +kernel
theorem dL_law_1020 : decode cL_law 1020 = .ok (.goto 133, 3) := by decide +kernel
theorem dL_law_1023 : decode cL_law 1023 = .ok (.aload_n 1, 1) := by decide +kernel
theorem dL_law_1024 : decode cL_law 1024 = .ok (.aload_n 0, 1) := by decide +kernel
theorem dL_law_1025 : decode cL_law 1025 = .ok (.iload 4, 2) := by decide +kernel
theorem dL_law_1027 : decode cL_law 1027 = .ok (.iconst 1, 1) := by decide +kernel
theorem dL_law_1028 : decode cL_law 1028 = .ok (.iadd, 1) := by decide +kernel
theorem dL_law_1029 : decode cL_law 1029 = .ok (.iaload, 1) := by decide +kernel
theorem dL_law_1030 : decode cL_law 1030 = .ok (.aload_n 0, 1) := by decide +kernel
theorem dL_law_1031 : decode cL_law 1031 = .ok (.iload 4, 2) := by decide +kernel
theorem dL_law_1033 : decode cL_law 1033 = .ok (.iconst 2, 1) := by decide +kernel
theorem dL_law_1034 : decode cL_law 1034 = .ok (.iadd, 1) := by decide +kernel
theorem dL_law_1035 : decode cL_law 1035 = .ok (.iaload, 1) := by decide +kernel
theorem dL_law_1036 : decode cL_law 1036 = .ok (.aload_n 3, 1) := by decide +kernel
theorem dL_law_1037 : decode cL_law 1037 = .ok (.invokestatic 115, 3) := by decide +kernel
theorem dL_law_1040 : decode cL_law 1040 = .ok (.istore 5, 2) := by decide +kernel
theorem dL_law_1042 : decode cL_law 1042 = .ok (.aload_n 2, 1) := by decide +kernel
theorem dL_law_1043 : decode cL_law 1043 = .ok (.aload_n 0, 1) := by decide +kernel
theorem dL_law_1044 : decode cL_law 1044 = .ok (.iload 4, 2) := by decide +kernel
theorem dL_law_1046 : decode cL_law 1046 = .ok (.iconst 1, 1) := by decide +kernel
theorem dL_law_1047 : decode cL_law 1047 = .ok (.iadd, 1) := by decide +kernel
theorem dL_law_1048 : decode cL_law 1048 = .ok (.iaload, 1) := by decide +kernel
theorem dL_law_1049 : decode cL_law 1049 = .ok (.aload_n 0, 1) := by decide +kernel
theorem dL_law_1050 : decode cL_law 1050 = .ok (.iload 4, 2) := by decide +kernel
theorem dL_law_1052 : decode cL_law 1052 = .ok (.iconst 2, 1) := by decide +kernel
theorem dL_law_1053 : decode cL_law 1053 = .ok (.iadd, 1) := by decide +kernel
theorem dL_law_1054 : decode cL_law 1054 = .ok (.iaload, 1) := by decide +kernel
theorem dL_law_1055 : decode cL_law 1055 = .ok (.invokevirtual 117, 3) := by decide +kernel
theorem dL_law_1058 : decode cL_law 1058 = .ok (.lstore 6, 2) := by decide +kernel
theorem dL_law_1060 : decode cL_law 1060 = .ok (.aload_n 2, 1) := by decide +kernel
theorem dL_law_1061 : decode cL_law 1061 = .ok (.invokevirtual 95, 3) := by decide +kernel
theorem dL_law_1064 : decode cL_law 1064 = .ok (.iload 5, 2) := by decide +kernel
theorem dL_law_1066 : decode cL_law 1066 = .ok (.if_icmp .eq 5, 3) := by decide +kernel
theorem dL_law_1069 : decode cL_law 1069 = .ok (.iconst 0, 1) := by decide +kernel
theorem dL_law_1070 : decode cL_law 1070 = .ok (.ireturn, 1) := by decide +kernel
theorem dL_law_1071 : decode cL_law 1071 = .ok (.iload 5, 2) := by decide +kernel
theorem dL_law_1073 : decode cL_law 1073 = .ok (.ifCond .ne 14, 3) := by decide +kernel
theorem dL_law_1076 : decode cL_law 1076 = .ok (.aload_n 3, 1) := by decide +kernel
theorem dL_law_1077 : decode cL_law 1077 = .ok (.iconst 0, 1) := by decide +kernel
theorem dL_law_1078 : decode cL_law 1078 = .ok (.laload, 1) := by decide +kernel
theorem dL_law_1079 : decode cL_law 1079 = .ok (.lload 6, 2) := by decide +kernel
theorem dL_law_1081 : decode cL_law 1081 = .ok (.lcmp, 1) := by decide +kernel
theorem dL_law_1082 : decode cL_law 1082 = .ok (.ifCond .eq 5, 3) := by decide +kernel
theorem dL_law_1085 : decode cL_law 1085 = .ok (.iconst 0, 1) := by decide +kernel
theorem dL_law_1086 : decode cL_law 1086 = .ok (.ireturn, 1) := by decide +kernel
theorem dL_law_1087 : decode cL_law 1087 = .ok (.goto 66, 3) := by decide +kernel
theorem dL_law_1090 : decode cL_law 1090 = .ok (.aload_n 1, 1) := by decide +kernel
theorem dL_law_1091 : decode cL_law 1091 = .ok (.aload_n 0, 1) := by decide +kernel
theorem dL_law_1092 : decode cL_law 1092 = .ok (.iload 4, 2) := by decide +kernel
theorem dL_law_1094 : decode cL_law 1094 = .ok (.iconst 1, 1) := by decide +kernel
theorem dL_law_1095 : decode cL_law 1095 = .ok (.iadd, 1) := by decide +kernel
theorem dL_law_1096 : decode cL_law 1096 = .ok (.iaload, 1) := by decide +kernel
theorem dL_law_1097 : decode cL_law 1097 = .ok (.invokevirtual 118, 3) := by decide +kernel
theorem dL_law_1100 : decode cL_law 1100 = .ok (.aload_n 2, 1) := by decide +kernel
theorem dL_law_1101 : decode cL_law 1101 = .ok (.aload_n 0, 1) := by decide +kernel
theorem dL_law_1102 : decode cL_law 1102 = .ok (.iload 4, 2) := by decide +kernel
theorem dL_law_1104 : decode cL_law 1104 = .ok (.iconst 1, 1) := by decide +kernel
theorem dL_law_1105 : decode cL_law 1105 = .ok (.iadd, 1) := by decide +kernel
theorem dL_law_1106 : decode cL_law 1106 = .ok (.iaload, 1) := by decide +kernel
theorem dL_law_1107 : decode cL_law 1107 = .ok (.invokevirtual 121, 3) := by decide +kernel
theorem dL_law_1110 : decode cL_law 1110 = .ok (.if_icmp .eq 43, 3) := by decide +kernel
theorem dL_law_1113 : decode cL_law 1113 = .ok (.iconst 0, 1) := by decide +kernel
theorem dL_law_1114 : decode cL_law 1114 = .ok (.ireturn, 1) := by decide +kernel
theorem dL_law_1115 : decode cL_law 1115 = .ok (.aload_n 1, 1) := by decide +kernel
theorem dL_law_1116 : decode cL_law 1116 = .ok (.invokevirtual 122, 3) := by decide +kernel
theorem dL_law_1119 : decode cL_law 1119 = .ok (.aload_n 2, 1) := by decide +kernel
theorem dL_law_1120 : decode cL_law 1120 = .ok (.invokevirtual 125, 3) := by decide +kernel
theorem dL_law_1123 : decode cL_law 1123 = .ok (.if_icmp .eq 30, 3) := by decide +kernel
theorem dL_law_1126 : decode cL_law 1126 = .ok (.iconst 0, 1) := by decide +kernel
theorem dL_law_1127 : decode cL_law 1127 = .ok (.ireturn, 1) := by decide +kernel
theorem dL_law_1128 : decode cL_law 1128 = .ok (.aload_n 1, 1) := by decide +kernel
theorem dL_law_1129 : decode cL_law 1129 = .ok (.aload_n 0, 1) := by decide +kernel
theorem dL_law_1130 : decode cL_law 1130 = .ok (.iload 4, 2) := by decide +kernel
theorem dL_law_1132 : decode cL_law 1132 = .ok (.iconst 1, 1) := by decide +kernel
theorem dL_law_1133 : decode cL_law 1133 = .ok (.iadd, 1) := by decide +kernel
theorem dL_law_1134 : decode cL_law 1134 = .ok (.iaload, 1) := by decide +kernel
theorem dL_law_1135 : decode cL_law 1135 = .ok (.invokevirtual 126, 3) := by decide +kernel
theorem dL_law_1138 : decode cL_law 1138 = .ok (.aload_n 2, 1) := by decide +kernel
theorem dL_law_1139 : decode cL_law 1139 = .ok (.aload_n 0, 1) := by decide +kernel
theorem dL_law_1140 : decode cL_law 1140 = .ok (.iload 4, 2) := by decide +kernel
theorem dL_law_1142 : decode cL_law 1142 = .ok (.iconst 1, 1) := by decide +kernel
theorem dL_law_1143 : decode cL_law 1143 = .ok (.iadd, 1) := by decide +kernel
theorem dL_law_1144 : decode cL_law 1144 = .ok (.iaload, 1) := by decide +kernel
theorem dL_law_1145 : decode cL_law 1145 = .ok (.invokevirtual 129, 3) := by decide +kernel
theorem dL_law_1148 : decode cL_law 1148 = .ok (.if_icmp .eq 5, 3) := by decide +kernel
theorem dL_law_1151 : decode cL_law 1151 = .ok (.iconst 0, 1) := by decide +kernel
theorem dL_law_1152 : decode cL_law 1152 = .ok (.ireturn, 1) := by decide +kernel
theorem dL_law_1153 : decode cL_law 1153 = .ok (.iinc 4 6, 3) := by decide +kernel
theorem dL_law_1156 : decode cL_law 1156 = .ok (.goto (-1133), 3) := by decide +kernel
theorem dL_law_1159 : decode cL_law 1159 = .ok (.iconst 1, 1) := by decide +kernel
theorem dL_law_1160 : decode cL_law 1160 = .ok (.ireturn, 1) := by decide +kernel
abbrev vwCl : List vw_C := [(RX0, TX0, 2), (RX1, TX1, 8), (RX2, TX2, 8), (RX3, TX3, 3), (RX4, TX4, 5), (RX5, TX5, 8), (RX6, TX6, 12), (RX7, TX7, 7), (RX8, TX8, 4), (RX9, TX9, 6), (RX10, TX10, 6), (RX11, TX11, 57)]
