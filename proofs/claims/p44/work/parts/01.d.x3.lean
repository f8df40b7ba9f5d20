theorem dX7_undo_147 : decode cX7_undo 147 = .ok (.istore 10, 2) := by decide +kernel
theorem dX7_undo_149 : decode cX7_undo 149 = .ok (.iconst 0, 1) := by decide +kernel
theorem dX7_undo_150 : decode cX7_undo 150 = .ok (.istore 11, 2) := by decide +kernel
theorem dX7_undo_152 : decode cX7_undo 152 = .ok (.iload 11, 2) := by decide +kernel
theorem dX7_undo_154 : decode cX7_undo 154 = .ok (.aload 4, 2) := by decide +kernel
theorem dX7_undo_156 : decode cX7_undo 156 = .ok (.arraylength, 1) := by decide +kernel
theorem dX7_undo_157 : decode cX7_undo 157 = .ok (.if_icmp .ge 44, 3) := by decide +kernel
theorem dX7_undo_160 : decode cX7_undo 160 = .ok (.aload 9, 2) := by decide +kernel
theorem dX7_undo_162 : decode cX7_undo 162 = .ok (.iload 10, 2) := by decide +kernel
theorem dX7_undo_164 : decode cX7_undo 164 = .ok (.iinc 10 1, 3) := by decide +kernel
theorem dX7_undo_167 : decode cX7_undo 167 = .ok (.aload 7, 2) := by decide +kernel
theorem dX7_undo_169 : decode cX7_undo 169 = .ok (.iload 11, 2) := by decide +kernel
theorem dX7_undo_171 : decode cX7_undo 171 = .ok (.iaload, 1) := by decide +kernel
theorem dX7_undo_172 : decode cX7_undo 172 = .ok (.iconst 1, 1) := by decide +kernel
theorem dX7_undo_173 : decode cX7_undo 173 = .ok (.isub, 1) := by decide +kernel
theorem dX7_undo_174 : decode cX7_undo 174 = .ok (.iastore, 1) := by decide +kernel
theorem dX7_undo_175 : decode cX7_undo 175 = .ok (.iload 11, 2) := by decide +kernel
theorem dX7_undo_177 : decode cX7_undo 177 = .ok (.aload 7, 2) := by decide +kernel
theorem dX7_undo_179 : decode cX7_undo 179 = .ok (.iload 11, 2) := by decide +kernel
theorem dX7_undo_181 : decode cX7_undo 181 = .ok (.iaload, 1) := by decide +kernel
theorem dX7_undo_182 : decode cX7_undo 182 = .ok (.iconst 1, 1) := by decide +kernel
theorem dX7_undo_183 : decode cX7_undo 183 = .ok (.if_icmp .ne 9, 3) := by decide +kernel
theorem dX7_undo_186 : decode cX7_undo 186 = .ok (.aload 5, 2) := by decide +kernel
theorem dX7_undo_188 : decode cX7_undo 188 = .ok (.arraylength, 1) := by decide +kernel
theorem dX7_undo_189 : decode cX7_undo 189 = .ok (.goto 6, 3) := by decide +kernel
theorem dX7_undo_192 : decode cX7_undo 192 = .ok (.aload 6, 2) := by decide +kernel
theorem dX7_undo_194 : decode cX7_undo 194 = .ok (.arraylength, 1) := by decide +kernel
theorem dX7_undo_195 : decode cX7_undo 195 = .ok (.iadd, 1) := by decide +kernel
theorem dX7_undo_196 : decode cX7_undo 196 = .ok (.istore 11, 2) := by decide +kernel
theorem dX7_undo_198 : decode cX7_undo 198 = .ok (.goto (-46), 3) := by decide +kernel
theorem dX7_undo_201 : decode cX7_undo 201 = .ok (.aload_n 0, 1) := by decide +kernel
theorem dX7_undo_202 : decode cX7_undo 202 = .ok (.iload_n 1, 1) := by decide +kernel
theorem dX7_undo_203 : decode cX7_undo 203 = .ok (.aload 9, 2) := by decide +kernel
theorem dX7_undo_205 : decode cX7_undo 205 = .ok (.invokevirtual 59, 3) := by decide +kernel
theorem dX7_undo_208 : decode cX7_undo 208 = .ok (.ireturn, 1) := by decide +kernel
theorem dX7_lay_0 : decode cX7_lay 0 = .ok (.aload_n 0, 1) := by decide +kernel
theorem dX7_lay_1 : decode cX7_lay 1 = .ok (.iload_n 1, 1) := by decide +kernel
theorem dX7_lay_2 : decode cX7_lay 2 = .ok (.invokestatic 113, 3) := by decide +kernel
theorem dX7_lay_5 : decode cX7_lay 5 = .ok (.ifCond .ne 10, 3) := by decide +kernel
theorem dX7_lay_8 : decode cX7_lay 8 = .ok (.iload_n 2, 1) := by decide +kernel
theorem dX7_lay_9 : decode cX7_lay 9 = .ok (.invokestatic 33, 3) := by decide +kernel
theorem dX7_lay_12 : decode cX7_lay 12 = .ok (.ifCond .eq 7, 3) := by decide +kernel
theorem dX7_lay_15 : decode cX7_lay 15 = .ok (.iconst 1, 1) := by decide +kernel
theorem dX7_lay_16 : decode cX7_lay 16 = .ok (.goto 4, 3) := by decide +kernel
theorem dX7_lay_19 : decode cX7_lay 19 = .ok (.iconst 0, 1) := by decide +kernel
theorem dX7_lay_20 : decode cX7_lay 20 = .ok (.iconst 1, 1) := by decide +kernel
theorem dX7_lay_21 : decode cX7_lay 21 = .ok (.invokevirtual 51, 3) := by decide +kernel
theorem dX7_lay_24 : decode cX7_lay 24 = .ok (.ifCond .ne 25, 3) := by decide +kernel
theorem dX7_lay_27 : decode cX7_lay 27 = .ok (.aload_n 0, 1) := by decide +kernel
theorem dX7_lay_28 : decode cX7_lay 28 = .ok (.iload_n 3, 1) := by decide +kernel
theorem dX7_lay_29 : decode cX7_lay 29 = .ok (.iconst 0, 1) := by decide +kernel
theorem dX7_lay_30 : decode cX7_lay 30 = .ok (.iconst 2, 1) := by decide +kernel
theorem dX7_lay_31 : decode cX7_lay 31 = .ok (.invokestatic 29, 3) := by decide +kernel
theorem dX7_lay_34 : decode cX7_lay 34 = .ok (.ifCond .ne 7, 3) := by decide +kernel
theorem dX7_lay_37 : decode cX7_lay 37 = .ok (.iconst 1, 1) := by decide +kernel
theorem dX7_lay_38 : decode cX7_lay 38 = .ok (.goto 4, 3) := by decide +kernel
theorem dX7_lay_41 : decode cX7_lay 41 = .ok (.iconst 0, 1) := by decide +kernel
theorem dX7_lay_42 : decode cX7_lay 42 = .ok (.iconst 2, 1) := by decide +kernel
theorem dX7_lay_43 : decode cX7_lay 43 = .ok (.invokevirtual 25, 3) := by decide +kernel
theorem dX7_lay_46 : decode cX7_lay 46 = .ok (.ifCond .eq 5, 3) := by decide +kernel
theorem dX7_lay_49 : decode cX7_lay 49 = .ok (.iconst 0, 1) := by decide +kernel
theorem dX7_lay_50 : decode cX7_lay 50 = .ok (.ireturn, 1) := by decide +kernel
theorem dX7_lay_51 : decode cX7_lay 51 = .ok (.aload_n 0, 1) := by decide +kernel
theorem dX7_lay_52 : decode cX7_lay 52 = .ok (.iload_n 2, 1) := by decide +kernel
theorem dX7_lay_53 : decode cX7_lay 53 = .ok (.iload_n 3, 1) := by decide +kernel
theorem dX7_lay_54 : decode cX7_lay 54 = .ok (.ifCond .ne 12, 3) := by decide +kernel
theorem dX7_lay_57 : decode cX7_lay 57 = .ok (.aload_n 0, 1) := by decide +kernel
theorem dX7_lay_58 : decode cX7_lay 58 = .ok (.iload_n 1, 1) := by decide +kernel
theorem dX7_lay_59 : decode cX7_lay 59 = .ok (.iconst 0, 1) := by decide +kernel
theorem dX7_lay_60 : decode cX7_lay 60 = .ok (.invokevirtual 116, 3) := by decide +kernel
theorem dX7_lay_63 : decode cX7_lay 63 = .ok (.goto 21, 3) := by decide +kernel
theorem dX7_lay_66 : decode cX7_lay 66 = .ok (.iload_n 3, 1) := by decide +kernel
theorem dX7_lay_67 : decode cX7_lay 67 = .ok (.iconst 1, 1) := by decide +kernel
theorem dX7_lay_68 : decode cX7_lay 68 = .ok (.if_icmp .ne 11, 3) := by decide +kernel
theorem dX7_lay_71 : decode cX7_lay 71 = .ok (.aload_n 0, 1) := by decide +kernel
theorem dX7_lay_72 : decode cX7_lay 72 = .ok (.iload_n 1, 1) := by decide +kernel
theorem dX7_lay_73 : decode cX7_lay 73 = .ok (.invokevirtual 120, 3) := by decide +kernel
theorem dX7_lay_76 : decode cX7_lay 76 = .ok (.goto 8, 3) := by decide +kernel
theorem dX7_lay_79 : decode cX7_lay 79 = .ok (.aload_n 0, 1) := by decide +kernel
theorem dX7_lay_80 : decode cX7_lay 80 = .ok (.iload_n 1, 1) := by decide +kernel
theorem dX7_lay_81 : decode cX7_lay 81 = .ok (.invokevirtual 123, 3) := by decide +kernel
theorem dX7_lay_84 : decode cX7_lay 84 = .ok (.invokevirtual 59, 3) := by decide +kernel
theorem dX7_lay_87 : decode cX7_lay 87 = .ok (.ireturn, 1) := by decide +kernel
theorem dX7_twosOf_0 : decode cX7_twosOf 0 = .ok (.iconst 1, 1) := by decide +kernel
theorem dX7_twosOf_1 : decode cX7_twosOf 1 = .ok (.newarray .int, 2) := by decide +kernel
theorem dX7_twosOf_3 : decode cX7_twosOf 3 = .ok (.dup, 1) := by decide +kernel
theorem dX7_twosOf_4 : decode cX7_twosOf 4 = .ok (.iconst 0, 1) := by decide +kernel
theorem dX7_twosOf_5 : decode cX7_twosOf 5 = .ok (.iconst 0, 1) := by decide +kernel
theorem dX7_twosOf_6 : decode cX7_twosOf 6 = .ok (.iastore, 1) := by decide +kernel
theorem dX7_twosOf_7 : decode cX7_twosOf 7 = .ok (.astore_n 2, 1) := by decide +kernel
theorem dX7_twosOf_8 : decode cX7_twosOf 8 = .ok (.iload_n 1, 1) := by decide +kernel
theorem dX7_twosOf_9 : decode cX7_twosOf 9 = .ok (.iconst 2, 1) := by decide +kernel
theorem dX7_twosOf_10 : decode cX7_twosOf 10 = .ok (.if_icmp .ge 69, 3) := by decide +kernel
theorem dX7_twosOf_13 : decode cX7_twosOf 13 = .ok (.iconst 0, 1) := by decide +kernel
theorem dX7_twosOf_14 : decode cX7_twosOf 14 = .ok (.istore_n 3, 1) := by decide +kernel
theorem dX7_twosOf_15 : decode cX7_twosOf 15 = .ok (.iload_n 3, 1) := by decide +kernel
theorem dX7_twosOf_16 : decode cX7_twosOf 16 = .ok (.iload_n 0, 1) := by decide +kernel
theorem dX7_twosOf_17 : decode cX7_twosOf 17 = .ok (.if_icmp .ge 60, 3) := by decide +kernel
theorem dX7_twosOf_20 : decode cX7_twosOf 20 = .ok (.aload_n 2, 1) := by decide +kernel
theorem dX7_twosOf_21 : decode cX7_twosOf 21 = .ok (.iconst 1, 1) := by decide +kernel
theorem dX7_twosOf_22 : decode cX7_twosOf 22 = .ok (.newarray .int, 2) := by decide +kernel
theorem dX7_twosOf_24 : decode cX7_twosOf 24 = .ok (.dup, 1) := by decide +kernel
theorem dX7_twosOf_25 : decode cX7_twosOf 25 = .ok (.iconst 0, 1) := by decide +kernel
theorem dX7_twosOf_26 : decode cX7_twosOf 26 = .ok (.iconst 1, 1) := by decide +kernel
theorem dX7_twosOf_27 : decode cX7_twosOf 27 = .ok (.iastore, 1) := by decide +kernel
theorem dX7_twosOf_28 : decode cX7_twosOf 28 = .ok (.iconst 1, 1) := by decide +kernel
theorem dX7_twosOf_29 : decode cX7_twosOf 29 = .ok (.newarray .int, 2) := by decide +kernel
theorem dX7_twosOf_31 : decode cX7_twosOf 31 = .ok (.dup, 1) := by decide +kernel
theorem dX7_twosOf_32 : decode cX7_twosOf 32 = .ok (.iconst 0, 1) := by decide +kernel
theorem dX7_twosOf_33 : decode cX7_twosOf 33 = .ok (.iconst 0, 1) := by decide +kernel
theorem dX7_twosOf_34 : decode cX7_twosOf 34 = .ok (.iastore, 1) := by decide +kernel
theorem dX7_twosOf_35 : decode cX7_twosOf 35 = .ok (.invokestatic 100, 3) := by decide +kernel
theorem dX7_twosOf_38 : decode cX7_twosOf 38 = .ok (.astore 4, 2) := by decide +kernel
theorem dX7_twosOf_40 : decode cX7_twosOf 40 = .ok (.iload_n 1, 1) := by decide +kernel
theorem dX7_twosOf_41 : decode cX7_twosOf 41 = .ok (.ifCond .ne 19, 3) := by decide +kernel
theorem dX7_twosOf_44 : decode cX7_twosOf 44 = .ok (.aload_n 2, 1) := by decide +kernel
theorem dX7_twosOf_45 : decode cX7_twosOf 45 = .ok (.iconst 5, 1) := by decide +kernel
theorem dX7_twosOf_46 : decode cX7_twosOf 46 = .ok (.invokestatic 55, 3) := by decide +kernel
theorem dX7_twosOf_49 : decode cX7_twosOf 49 = .ok (.bipush 6, 2) := by decide +kernel
theorem dX7_twosOf_51 : decode cX7_twosOf 51 = .ok (.invokestatic 55, 3) := by decide +kernel
theorem dX7_twosOf_54 : decode cX7_twosOf 54 = .ok (.invokestatic 100, 3) := by decide +kernel
theorem dX7_twosOf_57 : decode cX7_twosOf 57 = .ok (.goto 13, 3) := by decide +kernel
theorem dX7_twosOf_60 : decode cX7_twosOf 60 = .ok (.aload_n 2, 1) := by decide +kernel
theorem dX7_twosOf_61 : decode cX7_twosOf 61 = .ok (.aload_n 2, 1) := by decide +kernel
theorem dX7_twosOf_62 : decode cX7_twosOf 62 = .ok (.arraylength, 1) := by decide +kernel
theorem dX7_twosOf_63 : decode cX7_twosOf 63 = .ok (.aload_n 2, 1) := by decide +kernel
theorem dX7_twosOf_64 : decode cX7_twosOf 64 = .ok (.arraylength, 1) := by decide +kernel
theorem dX7_twosOf_65 : decode cX7_twosOf 65 = .ok (.aload 4, 2) := by decide +kernel
theorem dX7_twosOf_67 : decode cX7_twosOf 67 = .ok (.invokestatic 67, 3) := by decide +kernel
theorem dX7_twosOf_70 : decode cX7_twosOf 70 = .ok (.astore_n 2, 1) := by decide +kernel
theorem dX7_twosOf_71 : decode cX7_twosOf 71 = .ok (.iinc 3 1, 3) := by decide +kernel
theorem dX7_twosOf_74 : decode cX7_twosOf 74 = .ok (.goto (-59), 3) := by decide +kernel
theorem dX7_twosOf_77 : decode cX7_twosOf 77 = .ok (.aload_n 2, 1) := by decide +kernel
theorem dX7_twosOf_78 : decode cX7_twosOf 78 = .ok (.areturn, 1) := by decide +kernel
theorem dX7_twosOf_79 : decode cX7_twosOf 79 = .ok (.iconst 1, 1) := by decide +kernel
theorem dX7_twosOf_80 : decode cX7_twosOf 80 = .ok (.iload_n 0, 1) := by decide +kernel
theorem dX7_twosOf_81 : decode cX7_twosOf 81 = .ok (.ishl, 1) := by decide +kernel
theorem dX7_twosOf_82 : decode cX7_twosOf 82 = .ok (.newarray .int, 2) := by decide +kernel
theorem dX7_twosOf_84 : decode cX7_twosOf 84 = .ok (.astore_n 2, 1) := by decide +kernel
theorem dX7_twosOf_85 : decode cX7_twosOf 85 = .ok (.iconst 0, 1) := by decide +kernel
theorem dX7_twosOf_86 : decode cX7_twosOf 86 = .ok (.istore_n 3, 1) := by decide +kernel
theorem dX7_twosOf_87 : decode cX7_twosOf 87 = .ok (.iload_n 3, 1) := by decide +kernel
theorem dX7_twosOf_88 : decode cX7_twosOf 88 = .ok (.aload_n 2, 1) := by decide +kernel
theorem dX7_twosOf_89 : decode cX7_twosOf 89 = .ok (.arraylength, 1) := by decide +kernel
theorem dX7_twosOf_90 : decode cX7_twosOf 90 = .ok (.if_icmp .ge 37, 3) := by decide +kernel
theorem dX7_twosOf_93 : decode cX7_twosOf 93 = .ok (.iload_n 3, 1) := by decide +kernel
theorem dX7_twosOf_94 : decode cX7_twosOf 94 = .ok (.istore 4, 2) := by decide +kernel
theorem dX7_twosOf_96 : decode cX7_twosOf 96 = .ok (.iload 4, 2) := by decide +kernel
theorem dX7_twosOf_98 : decode cX7_twosOf 98 = .ok (.ifCond .le 23, 3) := by decide +kernel
theorem dX7_twosOf_101 : decode cX7_twosOf 101 = .ok (.aload_n 2, 1) := by decide +kernel
theorem dX7_twosOf_102 : decode cX7_twosOf 102 = .ok (.iload_n 3, 1) := by decide +kernel
theorem dX7_twosOf_103 : decode cX7_twosOf 103 = .ok (.aload_n 2, 1) := by decide +kernel
theorem dX7_twosOf_104 : decode cX7_twosOf 104 = .ok (.iload_n 3, 1) := by decide +kernel
theorem dX7_twosOf_105 : decode cX7_twosOf 105 = .ok (.iaload, 1) := by decide +kernel
theorem dX7_twosOf_106 : decode cX7_twosOf 106 = .ok (.iload 4, 2) := by decide +kernel
theorem dX7_twosOf_108 : decode cX7_twosOf 108 = .ok (.iadd, 1) := by decide +kernel
theorem dX7_twosOf_109 : decode cX7_twosOf 109 = .ok (.iconst 2, 1) := by decide +kernel
theorem dX7_twosOf_110 : decode cX7_twosOf 110 = .ok (.irem, 1) := by decide +kernel
theorem dX7_twosOf_111 : decode cX7_twosOf 111 = .ok (.iastore, 1) := by decide +kernel
theorem dX7_twosOf_112 : decode cX7_twosOf 112 = .ok (.iload 4, 2) := by decide +kernel
theorem dX7_twosOf_114 : decode cX7_twosOf 114 = .ok (.iconst 2, 1) := by decide +kernel
theorem dX7_twosOf_115 : decode cX7_twosOf 115 = .ok (.idiv, 1) := by decide +kernel
theorem dX7_twosOf_116 : decode cX7_twosOf 116 = .ok (.istore 4, 2) := by decide +kernel
theorem dX7_twosOf_118 : decode cX7_twosOf 118 = .ok (.goto (-22), 3) := by decide +kernel
theorem dX7_twosOf_121 : decode cX7_twosOf 121 = .ok (.iinc 3 1, 3) := by decide +kernel
theorem dX7_twosOf_124 : decode cX7_twosOf 124 = .ok (.goto (-37), 3) := by decide +kernel
theorem dX7_twosOf_127 : decode cX7_twosOf 127 = .ok (.aload_n 2, 1) := by decide +kernel
theorem dX7_twosOf_128 : decode cX7_twosOf 128 = .ok (.areturn, 1) := by decide +kernel
theorem dX7_twos_0 : decode cX7_twos 0 = .ok (.aload_n 0, 1) := by decide +kernel
theorem dX7_twos_1 : decode cX7_twos 1 = .ok (.iload_n 1, 1) := by decide +kernel
theorem dX7_twos_2 : decode cX7_twos 2 = .ok (.invokestatic 33, 3) := by decide +kernel
theorem dX7_twos_5 : decode cX7_twos 5 = .ok (.iconst 1, 1) := by decide +kernel
theorem dX7_twos_6 : decode cX7_twos 6 = .ok (.invokevirtual 51, 3) := by decide +kernel
theorem dX7_twos_9 : decode cX7_twos 9 = .ok (.ifCond .ne 35, 3) := by decide +kernel
theorem dX7_twos_12 : decode cX7_twos 12 = .ok (.aload_n 0, 1) := by decide +kernel
theorem dX7_twos_13 : decode cX7_twos 13 = .ok (.iload_n 2, 1) := by decide +kernel
theorem dX7_twos_14 : decode cX7_twos 14 = .ok (.iconst 0, 1) := by decide +kernel
theorem dX7_twos_15 : decode cX7_twos 15 = .ok (.bipush 6, 2) := by decide +kernel
theorem dX7_twos_17 : decode cX7_twos 17 = .ok (.invokestatic 29, 3) := by decide +kernel
theorem dX7_twos_20 : decode cX7_twos 20 = .ok (.ifCond .eq 12, 3) := by decide +kernel
theorem dX7_twos_23 : decode cX7_twos 23 = .ok (.iload_n 3, 1) := by decide +kernel
theorem dX7_twos_24 : decode cX7_twos 24 = .ok (.iconst 0, 1) := by decide +kernel
theorem dX7_twos_25 : decode cX7_twos 25 = .ok (.iconst 2, 1) := by decide +kernel
theorem dX7_twos_26 : decode cX7_twos 26 = .ok (.invokestatic 29, 3) := by decide +kernel
theorem dX7_twos_29 : decode cX7_twos 29 = .ok (.ifCond .ne 7, 3) := by decide +kernel
theorem dX7_twos_32 : decode cX7_twos 32 = .ok (.iconst 1, 1) := by decide +kernel
theorem dX7_twos_33 : decode cX7_twos 33 = .ok (.goto 4, 3) := by decide +kernel
theorem dX7_twos_36 : decode cX7_twos 36 = .ok (.iconst 0, 1) := by decide +kernel
theorem dX7_twos_37 : decode cX7_twos 37 = .ok (.iconst 2, 1) := by decide +kernel
theorem dX7_twos_38 : decode cX7_twos 38 = .ok (.invokevirtual 25, 3) := by decide +kernel
theorem dX7_twos_41 : decode cX7_twos 41 = .ok (.ifCond .eq 5, 3) := by decide +kernel
theorem dX7_twos_44 : decode cX7_twos 44 = .ok (.iconst 0, 1) := by decide +kernel
theorem dX7_twos_45 : decode cX7_twos 45 = .ok (.ireturn, 1) := by decide +kernel
theorem dX7_twos_46 : decode cX7_twos 46 = .ok (.aload_n 0, 1) := by decide +kernel
theorem dX7_twos_47 : decode cX7_twos 47 = .ok (.iload_n 1, 1) := by decide +kernel
theorem dX7_twos_48 : decode cX7_twos 48 = .ok (.iload_n 2, 1) := by decide +kernel
theorem dX7_twos_49 : decode cX7_twos 49 = .ok (.iload_n 3, 1) := by decide +kernel
theorem dX7_twos_50 : decode cX7_twos 50 = .ok (.invokestatic 126, 3) := by decide +kernel
theorem dX7_twos_53 : decode cX7_twos 53 = .ok (.invokevirtual 59, 3) := by decide +kernel
theorem dX7_twos_56 : decode cX7_twos 56 = .ok (.ireturn, 1) := by decide +kernel
theorem dX7_lineSign_0 : decode cX7_lineSign 0 = .ok (.iload_n 3, 1) := by decide +kernel
theorem dX7_lineSign_1 : decode cX7_lineSign 1 = .ok (.iload_n 1, 1) := by decide +kernel
theorem dX7_lineSign_2 : decode cX7_lineSign 2 = .ok (.imul, 1) := by decide +kernel
theorem dX7_lineSign_3 : decode cX7_lineSign 3 = .ok (.iload_n 2, 1) := by decide +kernel
theorem dX7_lineSign_4 : decode cX7_lineSign 4 = .ok (.iadd, 1) := by decide +kernel
theorem dX7_lineSign_5 : decode cX7_lineSign 5 = .ok (.iload_n 0, 1) := by decide +kernel
theorem dX7_lineSign_6 : decode cX7_lineSign 6 = .ok (.irem, 1) := by decide +kernel
theorem dX7_lineSign_7 : decode cX7_lineSign 7 = .ok (.iload_n 1, 1) := by decide +kernel
theorem dX7_lineSign_8 : decode cX7_lineSign 8 = .ok (.iadd, 1) := by decide +kernel
theorem dX7_lineSign_9 : decode cX7_lineSign 9 = .ok (.iload_n 0, 1) := by decide +kernel
theorem dX7_lineSign_10 : decode cX7_lineSign 10 = .ok (.if_icmp .lt 7, 3) := by decide +kernel
theorem dX7_lineSign_13 : decode cX7_lineSign 13 = .ok (.iconst 1, 1) := by decide +kernel
theorem dX7_lineSign_14 : decode cX7_lineSign 14 = .ok (.goto 4, 3) := by decide +kernel
theorem dX7_lineSign_17 : decode cX7_lineSign 17 = .ok (.iconst 0, 1) := by decide +kernel
theorem dX7_lineSign_18 : decode cX7_lineSign 18 = .ok (.invokestatic 79, 3) := by decide +kernel
theorem dX7_lineSign_21 : decode cX7_lineSign 21 = .ok (.ireturn, 1) := by decide +kernel
theorem dX7_line_0 : decode cX7_line 0 = .ok (.aload_n 0, 1) := by decide +kernel
theorem dX7_line_1 : decode cX7_line 1 = .ok (.iload_n 1, 1) := by decide +kernel
theorem dX7_line_2 : decode cX7_line 2 = .ok (.invokestatic 33, 3) := by decide +kernel
theorem dX7_line_5 : decode cX7_line 5 = .ok (.iconst 1, 1) := by decide +kernel
theorem dX7_line_6 : decode cX7_line 6 = .ok (.invokevirtual 51, 3) := by decide +kernel
theorem dX7_line_9 : decode cX7_line 9 = .ok (.ifCond .ne 47, 3) := by decide +kernel
theorem dX7_line_12 : decode cX7_line 12 = .ok (.aload_n 0, 1) := by decide +kernel
theorem dX7_line_13 : decode cX7_line 13 = .ok (.iload_n 2, 1) := by decide +kernel
theorem dX7_line_14 : decode cX7_line 14 = .ok (.iconst 1, 1) := by decide +kernel
theorem dX7_line_15 : decode cX7_line 15 = .ok (.bipush 64, 2) := by decide +kernel
theorem dX7_line_17 : decode cX7_line 17 = .ok (.invokestatic 29, 3) := by decide +kernel
theorem dX7_line_20 : decode cX7_line 20 = .ok (.ifCond .eq 24, 3) := by decide +kernel
theorem dX7_line_23 : decode cX7_line 23 = .ok (.iload_n 3, 1) := by decide +kernel
theorem dX7_line_24 : decode cX7_line 24 = .ok (.iconst 0, 1) := by decide +kernel
theorem dX7_line_25 : decode cX7_line 25 = .ok (.iload_n 2, 1) := by decide +kernel
theorem dX7_line_26 : decode cX7_line 26 = .ok (.invokestatic 29, 3) := by decide +kernel
theorem dX7_line_29 : decode cX7_line 29 = .ok (.ifCond .eq 15, 3) := by decide +kernel
theorem dX7_line_32 : decode cX7_line 32 = .ok (.iload 4, 2) := by decide +kernel
theorem dX7_line_34 : decode cX7_line 34 = .ok (.iconst 0, 1) := by decide +kernel
theorem dX7_line_35 : decode cX7_line 35 = .ok (.iload_n 2, 1) := by decide +kernel
theorem dX7_line_36 : decode cX7_line 36 = .ok (.iconst 1, 1) := by decide +kernel
theorem dX7_line_37 : decode cX7_line 37 = .ok (.isub, 1) := by decide +kernel
theorem dX7_line_38 : decode cX7_line 38 = .ok (.invokestatic 29, 3) := by decide +kernel
theorem dX7_line_41 : decode cX7_line 41 = .ok (.ifCond .ne 7, 3) := by decide +kernel
theorem dX7_line_44 : decode cX7_line 44 = .ok (.iconst 1, 1) := by decide +kernel
theorem dX7_line_45 : decode cX7_line 45 = .ok (.goto 4, 3) := by decide +kernel
theorem dX7_line_48 : decode cX7_line 48 = .ok (.iconst 0, 1) := by decide +kernel
theorem dX7_line_49 : decode cX7_line 49 = .ok (.iconst 2, 1) := by decide +kernel
theorem dX7_line_50 : decode cX7_line 50 = .ok (.invokevirtual 25, 3) := by decide +kernel
theorem dX7_line_53 : decode cX7_line 53 = .ok (.ifCond .eq 5, 3) := by decide +kernel
theorem dX7_line_56 : decode cX7_line 56 = .ok (.iconst 0, 1) := by decide +kernel
theorem dX7_line_57 : decode cX7_line 57 = .ok (.ireturn, 1) := by decide +kernel
theorem dX7_line_58 : decode cX7_line 58 = .ok (.iload_n 2, 1) := by decide +kernel
theorem dX7_line_59 : decode cX7_line 59 = .ok (.newarray .int, 2) := by decide +kernel
theorem dX7_line_61 : decode cX7_line 61 = .ok (.astore 5, 2) := by decide +kernel
theorem dX7_line_63 : decode cX7_line 63 = .ok (.iconst 0, 1) := by decide +kernel
theorem dX7_line_64 : decode cX7_line 64 = .ok (.istore 6, 2) := by decide +kernel
theorem dX7_line_66 : decode cX7_line 66 = .ok (.iload 6, 2) := by decide +kernel
theorem dX7_line_68 : decode cX7_line 68 = .ok (.iload_n 2, 1) := by decide +kernel
theorem dX7_line_69 : decode cX7_line 69 = .ok (.if_icmp .ge 23, 3) := by decide +kernel
theorem dX7_line_72 : decode cX7_line 72 = .ok (.aload 5, 2) := by decide +kernel
theorem dX7_line_74 : decode cX7_line 74 = .ok (.iload 6, 2) := by decide +kernel
theorem dX7_line_76 : decode cX7_line 76 = .ok (.iload_n 2, 1) := by decide +kernel
theorem dX7_line_77 : decode cX7_line 77 = .ok (.iload_n 3, 1) := by decide +kernel
theorem dX7_line_78 : decode cX7_line 78 = .ok (.iload 4, 2) := by decide +kernel
theorem dX7_line_80 : decode cX7_line 80 = .ok (.iload 6, 2) := by decide +kernel
theorem dX7_line_82 : decode cX7_line 82 = .ok (.invokestatic 129, 3) := by decide +kernel
theorem dX7_line_85 : decode cX7_line 85 = .ok (.iastore, 1) := by decide +kernel
theorem dX7_line_86 : decode cX7_line 86 = .ok (.iinc 6 1, 3) := by decide +kernel
theorem dX7_line_89 : decode cX7_line 89 = .ok (.goto (-23), 3) := by decide +kernel
theorem dX7_line_92 : decode cX7_line 92 = .ok (.aload_n 0, 1) := by decide +kernel
theorem dX7_line_93 : decode cX7_line 93 = .ok (.iload_n 1, 1) := by decide +kernel
theorem dX7_line_94 : decode cX7_line 94 = .ok (.aload 5, 2) := by decide +kernel
theorem dX7_line_96 : decode cX7_line 96 = .ok (.invokevirtual 97, 3) := by decide +kernel
theorem dX7_line_99 : decode cX7_line 99 = .ok (.ireturn, 1) := by decide +kernel
theorem dX7_byCopies_0 : decode cX7_byCopies 0 = .ok (.iconst 1, 1) := by decide +kernel
theorem dX7_byCopies_1 : decode cX7_byCopies 1 = .ok (.newarray .int, 2) := by decide +kernel
theorem dX7_byCopies_3 : decode cX7_byCopies 3 = .ok (.dup, 1) := by decide +kernel
theorem dX7_byCopies_4 : decode cX7_byCopies 4 = .ok (.iconst 0, 1) := by decide +kernel
theorem dX7_byCopies_5 : decode cX7_byCopies 5 = .ok (.iconst 1, 1) := by decide +kernel
theorem dX7_byCopies_6 : decode cX7_byCopies 6 = .ok (.iastore, 1) := by decide +kernel
theorem dX7_byCopies_7 : decode cX7_byCopies 7 = .ok (.astore_n 3, 1) := by decide +kernel
theorem dX7_byCopies_8 : decode cX7_byCopies 8 = .ok (.iconst 1, 1) := by decide +kernel
theorem dX7_byCopies_9 : decode cX7_byCopies 9 = .ok (.newarray .int, 2) := by decide +kernel
theorem dX7_byCopies_11 : decode cX7_byCopies 11 = .ok (.dup, 1) := by decide +kernel
theorem dX7_byCopies_12 : decode cX7_byCopies 12 = .ok (.iconst 0, 1) := by decide +kernel
theorem dX7_byCopies_13 : decode cX7_byCopies 13 = .ok (.iconst 0, 1) := by decide +kernel
theorem dX7_byCopies_14 : decode cX7_byCopies 14 = .ok (.iastore, 1) := by decide +kernel
theorem dX7_byCopies_15 : decode cX7_byCopies 15 = .ok (.astore 4, 2) := by decide +kernel
theorem dX7_byCopies_17 : decode cX7_byCopies 17 = .ok (.iconst 0, 1) := by decide +kernel
theorem dX7_byCopies_18 : decode cX7_byCopies 18 = .ok (.istore 5, 2) := by decide +kernel
theorem dX7_byCopies_20 : decode cX7_byCopies 20 = .ok (.iload 5, 2) := by decide +kernel
theorem dX7_byCopies_22 : decode cX7_byCopies 22 = .ok (.aload_n 0, 1) := by decide +kernel
theorem dX7_byCopies_23 : decode cX7_byCopies 23 = .ok (.getfield 18, 3) := by decide +kernel
theorem dX7_byCopies_26 : decode cX7_byCopies 26 = .ok (.iload_n 1, 1) := by decide +kernel
theorem dX7_byCopies_27 : decode cX7_byCopies 27 = .ok (.iaload, 1) := by decide +kernel
theorem dX7_byCopies_28 : decode cX7_byCopies 28 = .ok (.iload_n 2, 1) := by decide +kernel
theorem dX7_byCopies_29 : decode cX7_byCopies 29 = .ok (.isub, 1) := by decide +kernel
theorem dX7_byCopies_30 : decode cX7_byCopies 30 = .ok (.if_icmp .ge 96, 3) := by decide +kernel
theorem dX7_byCopies_33 : decode cX7_byCopies 33 = .ok (.aload_n 0, 1) := by decide +kernel
theorem dX7_byCopies_34 : decode cX7_byCopies 34 = .ok (.getfield 15, 3) := by decide +kernel
theorem dX7_byCopies_37 : decode cX7_byCopies 37 = .ok (.iload_n 1, 1) := by decide +kernel
theorem dX7_byCopies_38 : decode cX7_byCopies 38 = .ok (.aaload, 1) := by decide +kernel
theorem dX7_byCopies_39 : decode cX7_byCopies 39 = .ok (.iload 5, 2) := by decide +kernel
theorem dX7_byCopies_41 : decode cX7_byCopies 41 = .ok (.iaload, 1) := by decide +kernel
theorem dX7_byCopies_42 : decode cX7_byCopies 42 = .ok (.istore 6, 2) := by decide +kernel
theorem dX7_byCopies_44 : decode cX7_byCopies 44 = .ok (.iload 6, 2) := by decide +kernel
theorem dX7_byCopies_46 : decode cX7_byCopies 46 = .ok (.aload 4, 2) := by decide +kernel
theorem dX7_byCopies_48 : decode cX7_byCopies 48 = .ok (.arraylength, 1) := by decide +kernel
theorem dX7_byCopies_49 : decode cX7_byCopies 49 = .ok (.imul, 1) := by decide +kernel
theorem dX7_byCopies_50 : decode cX7_byCopies 50 = .ok (.aload_n 3, 1) := by decide +kernel
theorem dX7_byCopies_51 : decode cX7_byCopies 51 = .ok (.arraylength, 1) := by decide +kernel
theorem dX7_byCopies_52 : decode cX7_byCopies 52 = .ok (.iadd, 1) := by decide +kernel
theorem dX7_byCopies_53 : decode cX7_byCopies 53 = .ok (.newarray .int, 2) := by decide +kernel
theorem dX7_byCopies_55 : decode cX7_byCopies 55 = .ok (.astore 7, 2) := by decide +kernel
theorem dX7_byCopies_57 : decode cX7_byCopies 57 = .ok (.iconst 0, 1) := by decide +kernel
theorem dX7_byCopies_58 : decode cX7_byCopies 58 = .ok (.istore 8, 2) := by decide +kernel
theorem dX7_byCopies_60 : decode cX7_byCopies 60 = .ok (.iload 8, 2) := by decide +kernel
theorem dX7_byCopies_62 : decode cX7_byCopies 62 = .ok (.aload 7, 2) := by decide +kernel
theorem dX7_byCopies_64 : decode cX7_byCopies 64 = .ok (.arraylength, 1) := by decide +kernel
theorem dX7_byCopies_65 : decode cX7_byCopies 65 = .ok (.if_icmp .ge 48, 3) := by decide +kernel
theorem dX7_byCopies_68 : decode cX7_byCopies 68 = .ok (.aload 7, 2) := by decide +kernel
theorem dX7_byCopies_70 : decode cX7_byCopies 70 = .ok (.iload 8, 2) := by decide +kernel
theorem dX7_byCopies_72 : decode cX7_byCopies 72 = .ok (.iload 8, 2) := by decide +kernel
theorem dX7_byCopies_74 : decode cX7_byCopies 74 = .ok (.iload 6, 2) := by decide +kernel
theorem dX7_byCopies_76 : decode cX7_byCopies 76 = .ok (.aload 4, 2) := by decide +kernel
theorem dX7_byCopies_78 : decode cX7_byCopies 78 = .ok (.arraylength, 1) := by decide +kernel
theorem dX7_byCopies_79 : decode cX7_byCopies 79 = .ok (.imul, 1) := by decide +kernel
theorem dX7_byCopies_80 : decode cX7_byCopies 80 = .ok (.if_icmp .ge 15, 3) := by decide +kernel
theorem dX7_byCopies_83 : decode cX7_byCopies 83 = .ok (.aload 4, 2) := by decide +kernel
theorem dX7_byCopies_85 : decode cX7_byCopies 85 = .ok (.iload 8, 2) := by decide +kernel
theorem dX7_byCopies_87 : decode cX7_byCopies 87 = .ok (.aload 4, 2) := by decide +kernel
theorem dX7_byCopies_89 : decode cX7_byCopies 89 = .ok (.arraylength, 1) := by decide +kernel
theorem dX7_byCopies_90 : decode cX7_byCopies 90 = .ok (.irem, 1) := by decide +kernel
theorem dX7_byCopies_91 : decode cX7_byCopies 91 = .ok (.iaload, 1) := by decide +kernel
theorem dX7_byCopies_92 : decode cX7_byCopies 92 = .ok (.goto 14, 3) := by decide +kernel
theorem dX7_byCopies_95 : decode cX7_byCopies 95 = .ok (.aload_n 3, 1) := by decide +kernel
theorem dX7_byCopies_96 : decode cX7_byCopies 96 = .ok (.iload 8, 2) := by decide +kernel
theorem dX7_byCopies_98 : decode cX7_byCopies 98 = .ok (.iload 6, 2) := by decide +kernel
theorem dX7_byCopies_100 : decode cX7_byCopies 100 = .ok (.aload 4, 2) := by decide +kernel
theorem dX7_byCopies_102 : decode cX7_byCopies 102 = .ok (.arraylength, 1) := by decide +kernel
theorem dX7_byCopies_103 : decode cX7_byCopies 103 = .ok (.imul, 1) := by decide +kernel
theorem dX7_byCopies_104 : decode cX7_byCopies 104 = .ok (.isub, 1) := by decide +kernel
theorem dX7_byCopies_105 : decode cX7_byCopies 105 = .ok (.iaload, 1) := by decide +kernel
theorem dX7_byCopies_106 : decode cX7_byCopies 106 = .ok (.iastore, 1) := by decide +kernel
theorem dX7_byCopies_107 : decode cX7_byCopies 107 = .ok (.iinc 8 1, 3) := by decide +kernel
theorem dX7_byCopies_110 : decode cX7_byCopies 110 = .ok (.goto (-50), 3) := by decide +kernel
theorem dX7_byCopies_113 : decode cX7_byCopies 113 = .ok (.aload 4, 2) := by decide +kernel
theorem dX7_byCopies_115 : decode cX7_byCopies 115 = .ok (.astore_n 3, 1) := by decide +kernel
theorem dX7_byCopies_116 : decode cX7_byCopies 116 = .ok (.aload 7, 2) := by decide +kernel
theorem dX7_byCopies_118 : decode cX7_byCopies 118 = .ok (.astore 4, 2) := by decide +kernel
theorem dX7_byCopies_120 : decode cX7_byCopies 120 = .ok (.iinc 5 1, 3) := by decide +kernel
theorem dX7_byCopies_123 : decode cX7_byCopies 123 = .ok (.goto (-103), 3) := by decide +kernel
theorem dX7_byCopies_126 : decode cX7_byCopies 126 = .ok (.aload 4, 2) := by decide +kernel
theorem dX7_byCopies_128 : decode cX7_byCopies 128 = .ok (.areturn, 1) := by decide +kernel
theorem dX7_elder_0 : decode cX7_elder 0 = .ok (.aload_n 0, 1) := by decide +kernel
theorem dX7_elder_1 : decode cX7_elder 1 = .ok (.getfield 18, 3) := by decide +kernel
theorem dX7_elder_4 : decode cX7_elder 4 = .ok (.iload_n 1, 1) := by decide +kernel
theorem dX7_elder_5 : decode cX7_elder 5 = .ok (.iaload, 1) := by decide +kernel
theorem dX7_elder_6 : decode cX7_elder 6 = .ok (.ifCond .ne 13, 3) := by decide +kernel
theorem dX7_elder_9 : decode cX7_elder 9 = .ok (.iconst 1, 1) := by decide +kernel
theorem dX7_elder_10 : decode cX7_elder 10 = .ok (.newarray .int, 2) := by decide +kernel
theorem dX7_elder_12 : decode cX7_elder 12 = .ok (.dup, 1) := by decide +kernel
theorem dX7_elder_13 : decode cX7_elder 13 = .ok (.iconst 0, 1) := by decide +kernel
theorem dX7_elder_14 : decode cX7_elder 14 = .ok (.iconst 1, 1) := by decide +kernel
theorem dX7_elder_15 : decode cX7_elder 15 = .ok (.iastore, 1) := by decide +kernel
theorem dX7_elder_16 : decode cX7_elder 16 = .ok (.goto 9, 3) := by decide +kernel
theorem dX7_elder_19 : decode cX7_elder 19 = .ok (.aload_n 0, 1) := by decide +kernel
theorem dX7_elder_20 : decode cX7_elder 20 = .ok (.iload_n 1, 1) := by decide +kernel
theorem dX7_elder_21 : decode cX7_elder 21 = .ok (.iconst 1, 1) := by decide +kernel
theorem dX7_elder_22 : decode cX7_elder 22 = .ok (.invokevirtual 116, 3) := by decide +kernel
theorem dX7_elder_25 : decode cX7_elder 25 = .ok (.areturn, 1) := by decide +kernel
theorem dX7_word_0 : decode cX7_word 0 = .ok (.iload_n 2, 1) := by decide +kernel
theorem dX7_word_1 : decode cX7_word 1 = .ok (.ifCond .eq 11, 3) := by decide +kernel
theorem dX7_word_4 : decode cX7_word 4 = .ok (.aload_n 0, 1) := by decide +kernel
theorem dX7_word_5 : decode cX7_word 5 = .ok (.iload_n 1, 1) := by decide +kernel
theorem dX7_word_6 : decode cX7_word 6 = .ok (.invokevirtual 133, 3) := by decide +kernel
theorem dX7_word_9 : decode cX7_word 9 = .ok (.goto 9, 3) := by decide +kernel
theorem dX7_word_12 : decode cX7_word 12 = .ok (.aload_n 0, 1) := by decide +kernel
theorem dX7_word_13 : decode cX7_word 13 = .ok (.iload_n 1, 1) := by decide +kernel
theorem dX7_word_14 : decode cX7_word 14 = .ok (.iconst 0, 1) := by decide +kernel
theorem dX7_word_15 : decode cX7_word 15 = .ok (.invokevirtual 116, 3) := by decide +kernel
theorem dX7_word_18 : decode cX7_word 18 = .ok (.areturn, 1) := by decide +kernel
theorem dX7_byRules_0 : decode cX7_byRules 0 = .ok (.iconst 1, 1) := by decide +kernel
theorem dX7_byRules_1 : decode cX7_byRules 1 = .ok (.newarray .int, 2) := by decide +kernel
theorem dX7_byRules_3 : decode cX7_byRules 3 = .ok (.dup, 1) := by decide +kernel
theorem dX7_byRules_4 : decode cX7_byRules 4 = .ok (.iconst 0, 1) := by decide +kernel
theorem dX7_byRules_5 : decode cX7_byRules 5 = .ok (.iconst 0, 1) := by decide +kernel
theorem dX7_byRules_6 : decode cX7_byRules 6 = .ok (.iastore, 1) := by decide +kernel
theorem dX7_byRules_7 : decode cX7_byRules 7 = .ok (.astore_n 2, 1) := by decide +kernel
theorem dX7_byRules_8 : decode cX7_byRules 8 = .ok (.aload_n 0, 1) := by decide +kernel
theorem dX7_byRules_9 : decode cX7_byRules 9 = .ok (.getfield 18, 3) := by decide +kernel
theorem dX7_byRules_12 : decode cX7_byRules 12 = .ok (.iload_n 1, 1) := by decide +kernel
theorem dX7_byRules_13 : decode cX7_byRules 13 = .ok (.iaload, 1) := by decide +kernel
theorem dX7_byRules_14 : decode cX7_byRules 14 = .ok (.iconst 1, 1) := by decide +kernel
theorem dX7_byRules_15 : decode cX7_byRules 15 = .ok (.isub, 1) := by decide +kernel
theorem dX7_byRules_16 : decode cX7_byRules 16 = .ok (.istore_n 3, 1) := by decide +kernel
theorem dX7_byRules_17 : decode cX7_byRules 17 = .ok (.iload_n 3, 1) := by decide +kernel
theorem dX7_byRules_18 : decode cX7_byRules 18 = .ok (.ifCond .lt 33, 3) := by decide +kernel
theorem dX7_byRules_21 : decode cX7_byRules 21 = .ok (.aload_n 2, 1) := by decide +kernel
theorem dX7_byRules_22 : decode cX7_byRules 22 = .ok (.iconst 2, 1) := by decide +kernel
theorem dX7_byRules_23 : decode cX7_byRules 23 = .ok (.aload_n 0, 1) := by decide +kernel
theorem dX7_byRules_24 : decode cX7_byRules 24 = .ok (.getfield 15, 3) := by decide +kernel
theorem dX7_byRules_27 : decode cX7_byRules 27 = .ok (.iload_n 1, 1) := by decide +kernel
theorem dX7_byRules_28 : decode cX7_byRules 28 = .ok (.aaload, 1) := by decide +kernel
theorem dX7_byRules_29 : decode cX7_byRules 29 = .ok (.iload_n 3, 1) := by decide +kernel
theorem dX7_byRules_30 : decode cX7_byRules 30 = .ok (.iaload, 1) := by decide +kernel
theorem dX7_byRules_31 : decode cX7_byRules 31 = .ok (.ishl, 1) := by decide +kernel
theorem dX7_byRules_32 : decode cX7_byRules 32 = .ok (.iconst 1, 1) := by decide +kernel
theorem dX7_byRules_33 : decode cX7_byRules 33 = .ok (.iadd, 1) := by decide +kernel
theorem dX7_byRules_34 : decode cX7_byRules 34 = .ok (.invokestatic 55, 3) := by decide +kernel
theorem dX7_byRules_37 : decode cX7_byRules 37 = .ok (.iconst 2, 1) := by decide +kernel
theorem dX7_byRules_38 : decode cX7_byRules 38 = .ok (.invokestatic 55, 3) := by decide +kernel
theorem dX7_byRules_41 : decode cX7_byRules 41 = .ok (.invokestatic 100, 3) := by decide +kernel
theorem dX7_byRules_44 : decode cX7_byRules 44 = .ok (.astore_n 2, 1) := by decide +kernel
theorem dX7_byRules_45 : decode cX7_byRules 45 = .ok (.iinc 3 (-1), 3) := by decide +kernel
theorem dX7_byRules_48 : decode cX7_byRules 48 = .ok (.goto (-31), 3) := by decide +kernel
theorem dX7_byRules_51 : decode cX7_byRules 51 = .ok (.aload_n 2, 1) := by decide +kernel
theorem dX7_byRules_52 : decode cX7_byRules 52 = .ok (.areturn, 1) := by decide +kernel
theorem dX7_byLine_0 : decode cX7_byLine 0 = .ok (.aload_n 0, 1) := by decide +kernel
theorem dX7_byLine_1 : decode cX7_byLine 1 = .ok (.getfield 18, 3) := by decide +kernel
theorem dX7_byLine_4 : decode cX7_byLine 4 = .ok (.iload_n 1, 1) := by decide +kernel
theorem dX7_byLine_5 : decode cX7_byLine 5 = .ok (.iaload, 1) := by decide +kernel
theorem dX7_byLine_6 : decode cX7_byLine 6 = .ok (.ifCond .ne 11, 3) := by decide +kernel
theorem dX7_byLine_9 : decode cX7_byLine 9 = .ok (.iconst 1, 1) := by decide +kernel
theorem dX7_byLine_10 : decode cX7_byLine 10 = .ok (.newarray .int, 2) := by decide +kernel
theorem dX7_byLine_12 : decode cX7_byLine 12 = .ok (.dup, 1) := by decide +kernel
theorem dX7_byLine_13 : decode cX7_byLine 13 = .ok (.iconst 0, 1) := by decide +kernel
theorem dX7_byLine_14 : decode cX7_byLine 14 = .ok (.iconst 0, 1) := by decide +kernel
theorem dX7_byLine_15 : decode cX7_byLine 15 = .ok (.iastore, 1) := by decide +kernel
theorem dX7_byLine_16 : decode cX7_byLine 16 = .ok (.areturn, 1) := by decide +kernel
theorem dX7_byLine_17 : decode cX7_byLine 17 = .ok (.iconst 2, 1) := by decide +kernel
theorem dX7_byLine_18 : decode cX7_byLine 18 = .ok (.newarray .int, 2) := by decide +kernel
theorem dX7_byLine_20 : decode cX7_byLine 20 = .ok (.dup, 1) := by decide +kernel
theorem dX7_byLine_21 : decode cX7_byLine 21 = .ok (.iconst 0, 1) := by decide +kernel
theorem dX7_byLine_22 : decode cX7_byLine 22 = .ok (.iconst 1, 1) := by decide +kernel
theorem dX7_byLine_23 : decode cX7_byLine 23 = .ok (.iastore, 1) := by decide +kernel
theorem dX7_byLine_24 : decode cX7_byLine 24 = .ok (.dup, 1) := by decide +kernel
theorem dX7_byLine_25 : decode cX7_byLine 25 = .ok (.iconst 1, 1) := by decide +kernel
theorem dX7_byLine_26 : decode cX7_byLine 26 = .ok (.iconst 1, 1) := by decide +kernel
theorem dX7_byLine_27 : decode cX7_byLine 27 = .ok (.iastore, 1) := by decide +kernel
theorem dX7_byLine_28 : decode cX7_byLine 28 = .ok (.astore_n 2, 1) := by decide +kernel
theorem dX7_byLine_29 : decode cX7_byLine 29 = .ok (.iconst 2, 1) := by decide +kernel
theorem dX7_byLine_30 : decode cX7_byLine 30 = .ok (.newarray .int, 2) := by decide +kernel
theorem dX7_byLine_32 : decode cX7_byLine 32 = .ok (.dup, 1) := by decide +kernel
theorem dX7_byLine_33 : decode cX7_byLine 33 = .ok (.iconst 0, 1) := by decide +kernel
theorem dX7_byLine_34 : decode cX7_byLine 34 = .ok (.iconst 1, 1) := by decide +kernel
theorem dX7_byLine_35 : decode cX7_byLine 35 = .ok (.iastore, 1) := by decide +kernel
theorem dX7_byLine_36 : decode cX7_byLine 36 = .ok (.dup, 1) := by decide +kernel
theorem dX7_byLine_37 : decode cX7_byLine 37 = .ok (.iconst 1, 1) := by decide +kernel
theorem dX7_byLine_38 : decode cX7_byLine 38 = .ok (.iconst 0, 1) := by decide +kernel
theorem dX7_byLine_39 : decode cX7_byLine 39 = .ok (.iastore, 1) := by decide +kernel
theorem dX7_byLine_40 : decode cX7_byLine 40 = .ok (.astore_n 3, 1) := by decide +kernel
theorem dX7_byLine_41 : decode cX7_byLine 41 = .ok (.iconst 0, 1) := by decide +kernel
theorem dX7_byLine_42 : decode cX7_byLine 42 = .ok (.istore 4, 2) := by decide +kernel
theorem dX7_byLine_44 : decode cX7_byLine 44 = .ok (.iload 4, 2) := by decide +kernel
theorem dX7_byLine_46 : decode cX7_byLine 46 = .ok (.aload_n 0, 1) := by decide +kernel
theorem dX7_byLine_47 : decode cX7_byLine 47 = .ok (.getfield 18, 3) := by decide +kernel
theorem dX7_byLine_50 : decode cX7_byLine 50 = .ok (.iload_n 1, 1) := by decide +kernel
theorem dX7_byLine_51 : decode cX7_byLine 51 = .ok (.iaload, 1) := by decide +kernel
theorem dX7_byLine_52 : decode cX7_byLine 52 = .ok (.if_icmp .ge 66, 3) := by decide +kernel
theorem dX7_byLine_55 : decode cX7_byLine 55 = .ok (.aload_n 0, 1) := by decide +kernel
theorem dX7_byLine_56 : decode cX7_byLine 56 = .ok (.getfield 15, 3) := by decide +kernel
theorem dX7_byLine_59 : decode cX7_byLine 59 = .ok (.iload_n 1, 1) := by decide +kernel
theorem dX7_byLine_60 : decode cX7_byLine 60 = .ok (.aaload, 1) := by decide +kernel
theorem dX7_byLine_61 : decode cX7_byLine 61 = .ok (.iload 4, 2) := by decide +kernel
theorem dX7_byLine_63 : decode cX7_byLine 63 = .ok (.iaload, 1) := by decide +kernel
theorem dX7_byLine_64 : decode cX7_byLine 64 = .ok (.istore 5, 2) := by decide +kernel
theorem dX7_byLine_66 : decode cX7_byLine 66 = .ok (.iconst 2, 1) := by decide +kernel
theorem dX7_byLine_67 : decode cX7_byLine 67 = .ok (.newarray .int, 2) := by decide +kernel
theorem dX7_byLine_69 : decode cX7_byLine 69 = .ok (.dup, 1) := by decide +kernel
theorem dX7_byLine_70 : decode cX7_byLine 70 = .ok (.iconst 0, 1) := by decide +kernel
theorem dX7_byLine_71 : decode cX7_byLine 71 = .ok (.aload_n 2, 1) := by decide +kernel
theorem dX7_byLine_72 : decode cX7_byLine 72 = .ok (.iconst 1, 1) := by decide +kernel
theorem dX7_byLine_73 : decode cX7_byLine 73 = .ok (.iaload, 1) := by decide +kernel
theorem dX7_byLine_74 : decode cX7_byLine 74 = .ok (.iastore, 1) := by decide +kernel
theorem dX7_byLine_75 : decode cX7_byLine 75 = .ok (.dup, 1) := by decide +kernel
theorem dX7_byLine_76 : decode cX7_byLine 76 = .ok (.iconst 1, 1) := by decide +kernel
theorem dX7_byLine_77 : decode cX7_byLine 77 = .ok (.iload 5, 2) := by decide +kernel
theorem dX7_byLine_79 : decode cX7_byLine 79 = .ok (.aload_n 2, 1) := by decide +kernel
theorem dX7_byLine_80 : decode cX7_byLine 80 = .ok (.iconst 1, 1) := by decide +kernel
theorem dX7_byLine_81 : decode cX7_byLine 81 = .ok (.iaload, 1) := by decide +kernel
theorem dX7_byLine_82 : decode cX7_byLine 82 = .ok (.imul, 1) := by decide +kernel
theorem dX7_byLine_83 : decode cX7_byLine 83 = .ok (.aload_n 2, 1) := by decide +kernel
theorem dX7_byLine_84 : decode cX7_byLine 84 = .ok (.iconst 0, 1) := by decide +kernel
theorem dX7_byLine_85 : decode cX7_byLine 85 = .ok (.iaload, 1) := by decide +kernel
theorem dX7_byLine_86 : decode cX7_byLine 86 = .ok (.iadd, 1) := by decide +kernel
theorem dX7_byLine_87 : decode cX7_byLine 87 = .ok (.iastore, 1) := by decide +kernel
theorem dX7_byLine_88 : decode cX7_byLine 88 = .ok (.astore_n 2, 1) := by decide +kernel
theorem dX7_byLine_89 : decode cX7_byLine 89 = .ok (.iconst 2, 1) := by decide +kernel
theorem dX7_byLine_90 : decode cX7_byLine 90 = .ok (.newarray .int, 2) := by decide +kernel
theorem dX7_byLine_92 : decode cX7_byLine 92 = .ok (.dup, 1) := by decide +kernel
theorem dX7_byLine_93 : decode cX7_byLine 93 = .ok (.iconst 0, 1) := by decide +kernel
theorem dX7_byLine_94 : decode cX7_byLine 94 = .ok (.aload_n 3, 1) := by decide +kernel
theorem dX7_byLine_95 : decode cX7_byLine 95 = .ok (.iconst 1, 1) := by decide +kernel
theorem dX7_byLine_96 : decode cX7_byLine 96 = .ok (.iaload, 1) := by decide +kernel
theorem dX7_byLine_97 : decode cX7_byLine 97 = .ok (.iastore, 1) := by decide +kernel
theorem dX7_byLine_98 : decode cX7_byLine 98 = .ok (.dup, 1) := by decide +kernel
theorem dX7_byLine_99 : decode cX7_byLine 99 = .ok (.iconst 1, 1) := by decide +kernel
theorem dX7_byLine_100 : decode cX7_byLine 100 = .ok (.iload 5, 2) := by decide +kernel
theorem dX7_byLine_102 : decode cX7_byLine 102 = .ok (.aload_n 3, 1) := by decide +kernel
theorem dX7_byLine_103 : decode cX7_byLine 103 = .ok (.iconst 1, 1) := by decide +kernel
theorem dX7_byLine_104 : decode cX7_byLine 104 = .ok (.iaload, 1) := by decide +kernel
theorem dX7_byLine_105 : decode cX7_byLine 105 = .ok (.imul, 1) := by decide +kernel
theorem dX7_byLine_106 : decode cX7_byLine 106 = .ok (.aload_n 3, 1) := by decide +kernel
theorem dX7_byLine_107 : decode cX7_byLine 107 = .ok (.iconst 0, 1) := by decide +kernel
theorem dX7_byLine_108 : decode cX7_byLine 108 = .ok (.iaload, 1) := by decide +kernel
theorem dX7_byLine_109 : decode cX7_byLine 109 = .ok (.iadd, 1) := by decide +kernel
theorem dX7_byLine_110 : decode cX7_byLine 110 = .ok (.iastore, 1) := by decide +kernel
theorem dX7_byLine_111 : decode cX7_byLine 111 = .ok (.astore_n 3, 1) := by decide +kernel
theorem dX7_byLine_112 : decode cX7_byLine 112 = .ok (.iinc 4 1, 3) := by decide +kernel
theorem dX7_byLine_115 : decode cX7_byLine 115 = .ok (.goto (-71), 3) := by decide +kernel
theorem dX7_byLine_118 : decode cX7_byLine 118 = .ok (.aload_n 2, 1) := by decide +kernel
theorem dX7_byLine_119 : decode cX7_byLine 119 = .ok (.iconst 1, 1) := by decide +kernel
theorem dX7_byLine_120 : decode cX7_byLine 120 = .ok (.iaload, 1) := by decide +kernel
theorem dX7_byLine_121 : decode cX7_byLine 121 = .ok (.istore 4, 2) := by decide +kernel
theorem dX7_byLine_123 : decode cX7_byLine 123 = .ok (.iload 4, 2) := by decide +kernel
theorem dX7_byLine_125 : decode cX7_byLine 125 = .ok (.newarray .int, 2) := by decide +kernel
theorem dX7_byLine_127 : decode cX7_byLine 127 = .ok (.astore 5, 2) := by decide +kernel
theorem dX7_byLine_129 : decode cX7_byLine 129 = .ok (.iconst 0, 1) := by decide +kernel
theorem dX7_byLine_130 : decode cX7_byLine 130 = .ok (.istore 6, 2) := by decide +kernel
theorem dX7_byLine_132 : decode cX7_byLine 132 = .ok (.iload 6, 2) := by decide +kernel
theorem dX7_byLine_134 : decode cX7_byLine 134 = .ok (.iload 4, 2) := by decide +kernel
theorem dX7_byLine_136 : decode cX7_byLine 136 = .ok (.iconst 2, 1) := by decide +kernel
theorem dX7_byLine_137 : decode cX7_byLine 137 = .ok (.isub, 1) := by decide +kernel
theorem dX7_byLine_138 : decode cX7_byLine 138 = .ok (.if_icmp .ge 27, 3) := by decide +kernel
theorem dX7_byLine_141 : decode cX7_byLine 141 = .ok (.aload 5, 2) := by decide +kernel
theorem dX7_byLine_143 : decode cX7_byLine 143 = .ok (.iload 6, 2) := by decide +kernel
theorem dX7_byLine_145 : decode cX7_byLine 145 = .ok (.iload 4, 2) := by decide +kernel
theorem dX7_byLine_147 : decode cX7_byLine 147 = .ok (.aload_n 3, 1) := by decide +kernel
theorem dX7_byLine_148 : decode cX7_byLine 148 = .ok (.iconst 1, 1) := by decide +kernel
theorem dX7_byLine_149 : decode cX7_byLine 149 = .ok (.iaload, 1) := by decide +kernel
theorem dX7_byLine_150 : decode cX7_byLine 150 = .ok (.iconst 0, 1) := by decide +kernel
theorem dX7_byLine_151 : decode cX7_byLine 151 = .ok (.iload 6, 2) := by decide +kernel
theorem dX7_byLine_153 : decode cX7_byLine 153 = .ok (.iconst 1, 1) := by decide +kernel
theorem dX7_byLine_154 : decode cX7_byLine 154 = .ok (.iadd, 1) := by decide +kernel
theorem dX7_byLine_155 : decode cX7_byLine 155 = .ok (.invokestatic 129, 3) := by decide +kernel
theorem dX7_byLine_158 : decode cX7_byLine 158 = .ok (.iastore, 1) := by decide +kernel
theorem dX7_byLine_159 : decode cX7_byLine 159 = .ok (.iinc 6 1, 3) := by decide +kernel
theorem dX7_byLine_162 : decode cX7_byLine 162 = .ok (.goto (-30), 3) := by decide +kernel
theorem dX7_byLine_165 : decode cX7_byLine 165 = .ok (.aload 5, 2) := by decide +kernel
theorem dX7_byLine_167 : decode cX7_byLine 167 = .ok (.iload 4, 2) := by decide +kernel
theorem dX7_byLine_169 : decode cX7_byLine 169 = .ok (.iconst 2, 1) := by decide +kernel
theorem dX7_byLine_170 : decode cX7_byLine 170 = .ok (.isub, 1) := by decide +kernel
theorem dX7_byLine_171 : decode cX7_byLine 171 = .ok (.aload_n 0, 1) := by decide +kernel
theorem dX7_byLine_172 : decode cX7_byLine 172 = .ok (.getfield 18, 3) := by decide +kernel
theorem dX7_byLine_175 : decode cX7_byLine 175 = .ok (.iload_n 1, 1) := by decide +kernel
theorem dX7_byLine_176 : decode cX7_byLine 176 = .ok (.iaload, 1) := by decide +kernel
theorem dX7_byLine_177 : decode cX7_byLine 177 = .ok (.iconst 2, 1) := by decide +kernel
theorem dX7_byLine_178 : decode cX7_byLine 178 = .ok (.irem, 1) := by decide +kernel
theorem dX7_byLine_179 : decode cX7_byLine 179 = .ok (.ifCond .ne 7, 3) := by decide +kernel
theorem dX7_byLine_182 : decode cX7_byLine 182 = .ok (.iconst 1, 1) := by decide +kernel
theorem dX7_byLine_183 : decode cX7_byLine 183 = .ok (.goto 4, 3) := by decide +kernel
theorem dX7_byLine_186 : decode cX7_byLine 186 = .ok (.iconst 0, 1) := by decide +kernel
theorem dX7_byLine_187 : decode cX7_byLine 187 = .ok (.invokestatic 79, 3) := by decide +kernel
theorem dX7_byLine_190 : decode cX7_byLine 190 = .ok (.iastore, 1) := by decide +kernel
theorem dX7_byLine_191 : decode cX7_byLine 191 = .ok (.aload 5, 2) := by decide +kernel
theorem dX7_byLine_193 : decode cX7_byLine 193 = .ok (.iload 4, 2) := by decide +kernel
theorem dX7_byLine_195 : decode cX7_byLine 195 = .ok (.iconst 1, 1) := by decide +kernel
theorem dX7_byLine_196 : decode cX7_byLine 196 = .ok (.isub, 1) := by decide +kernel
theorem dX7_byLine_197 : decode cX7_byLine 197 = .ok (.aload_n 0, 1) := by decide +kernel
theorem dX7_byLine_198 : decode cX7_byLine 198 = .ok (.getfield 18, 3) := by decide +kernel
theorem dX7_byLine_201 : decode cX7_byLine 201 = .ok (.iload_n 1, 1) := by decide +kernel
theorem dX7_byLine_202 : decode cX7_byLine 202 = .ok (.iaload, 1) := by decide +kernel
theorem dX7_byLine_203 : decode cX7_byLine 203 = .ok (.iconst 2, 1) := by decide +kernel
theorem dX7_byLine_204 : decode cX7_byLine 204 = .ok (.irem, 1) := by decide +kernel
theorem dX7_byLine_205 : decode cX7_byLine 205 = .ok (.ifCond .eq 7, 3) := by decide +kernel
theorem dX7_byLine_208 : decode cX7_byLine 208 = .ok (.iconst 1, 1) := by decide +kernel
theorem dX7_byLine_209 : decode cX7_byLine 209 = .ok (.goto 4, 3) := by decide +kernel
theorem dX7_byLine_212 : decode cX7_byLine 212 = .ok (.iconst 0, 1) := by decide +kernel
theorem dX7_byLine_213 : decode cX7_byLine 213 = .ok (.invokestatic 79, 3) := by decide +kernel
theorem dX7_byLine_216 : decode cX7_byLine 216 = .ok (.iastore, 1) := by decide +kernel
theorem dX7_byLine_217 : decode cX7_byLine 217 = .ok (.aload 5, 2) := by decide +kernel
theorem dX7_byLine_219 : decode cX7_byLine 219 = .ok (.areturn, 1) := by decide +kernel
theorem dX7_grow_0 : decode cX7_grow 0 = .ok (.aload_n 0, 1) := by decide +kernel
theorem dX7_grow_1 : decode cX7_grow 1 = .ok (.iload_n 1, 1) := by decide +kernel
theorem dX7_grow_2 : decode cX7_grow 2 = .ok (.invokestatic 113, 3) := by decide +kernel
theorem dX7_grow_5 : decode cX7_grow 5 = .ok (.iconst 1, 1) := by decide +kernel
theorem dX7_grow_6 : decode cX7_grow 6 = .ok (.invokevirtual 51, 3) := by decide +kernel
theorem dX7_grow_9 : decode cX7_grow 9 = .ok (.ifCond .ne 25, 3) := by decide +kernel
theorem dX7_grow_12 : decode cX7_grow 12 = .ok (.aload_n 0, 1) := by decide +kernel
theorem dX7_grow_13 : decode cX7_grow 13 = .ok (.iload_n 2, 1) := by decide +kernel
theorem dX7_grow_14 : decode cX7_grow 14 = .ok (.iconst 1, 1) := by decide +kernel
theorem dX7_grow_15 : decode cX7_grow 15 = .ok (.iconst 3, 1) := by decide +kernel
theorem dX7_grow_16 : decode cX7_grow 16 = .ok (.invokestatic 29, 3) := by decide +kernel
theorem dX7_grow_19 : decode cX7_grow 19 = .ok (.ifCond .ne 7, 3) := by decide +kernel
theorem dX7_grow_22 : decode cX7_grow 22 = .ok (.iconst 1, 1) := by decide +kernel
theorem dX7_grow_23 : decode cX7_grow 23 = .ok (.goto 4, 3) := by decide +kernel
theorem dX7_grow_26 : decode cX7_grow 26 = .ok (.iconst 0, 1) := by decide +kernel
theorem dX7_grow_27 : decode cX7_grow 27 = .ok (.iconst 2, 1) := by decide +kernel
theorem dX7_grow_28 : decode cX7_grow 28 = .ok (.invokevirtual 25, 3) := by decide +kernel
theorem dX7_grow_31 : decode cX7_grow 31 = .ok (.ifCond .eq 5, 3) := by decide +kernel
theorem dX7_grow_34 : decode cX7_grow 34 = .ok (.iconst 0, 1) := by decide +kernel
theorem dX7_grow_35 : decode cX7_grow 35 = .ok (.ireturn, 1) := by decide +kernel
theorem dX7_grow_36 : decode cX7_grow 36 = .ok (.iload_n 2, 1) := by decide +kernel
theorem dX7_grow_37 : decode cX7_grow 37 = .ok (.aload_n 0, 1) := by decide +kernel
theorem dX7_grow_38 : decode cX7_grow 38 = .ok (.iload_n 1, 1) := by decide +kernel
theorem dX7_grow_39 : decode cX7_grow 39 = .ok (.iconst 0, 1) := by decide +kernel
theorem dX7_grow_40 : decode cX7_grow 40 = .ok (.invokevirtual 116, 3) := by decide +kernel
theorem dX7_grow_43 : decode cX7_grow 43 = .ok (.arraylength, 1) := by decide +kernel
theorem dX7_grow_44 : decode cX7_grow 44 = .ok (.imul, 1) := by decide +kernel
theorem dX7_grow_45 : decode cX7_grow 45 = .ok (.aload_n 0, 1) := by decide +kernel
theorem dX7_grow_46 : decode cX7_grow 46 = .ok (.iload_n 1, 1) := by decide +kernel
theorem dX7_grow_47 : decode cX7_grow 47 = .ok (.invokevirtual 133, 3) := by decide +kernel
theorem dX7_grow_50 : decode cX7_grow 50 = .ok (.arraylength, 1) := by decide +kernel
theorem dX7_grow_51 : decode cX7_grow 51 = .ok (.iadd, 1) := by decide +kernel
theorem dX7_grow_52 : decode cX7_grow 52 = .ok (.istore_n 3, 1) := by decide +kernel
theorem dX7_grow_53 : decode cX7_grow 53 = .ok (.iload_n 3, 1) := by decide +kernel
theorem dX7_grow_54 : decode cX7_grow 54 = .ok (.bipush 64, 2) := by decide +kernel
theorem dX7_grow_56 : decode cX7_grow 56 = .ok (.if_icmp .le 8, 3) := by decide +kernel
theorem dX7_grow_59 : decode cX7_grow 59 = .ok (.aload_n 0, 1) := by decide +kernel
theorem dX7_grow_60 : decode cX7_grow 60 = .ok (.invokevirtual 63, 3) := by decide +kernel
theorem dX7_grow_63 : decode cX7_grow 63 = .ok (.ireturn, 1) := by decide +kernel
theorem dX7_grow_64 : decode cX7_grow 64 = .ok (.aload_n 0, 1) := by decide +kernel
theorem dX7_grow_65 : decode cX7_grow 65 = .ok (.getfield 15, 3) := by decide +kernel
theorem dX7_grow_68 : decode cX7_grow 68 = .ok (.iload_n 1, 1) := by decide +kernel
theorem dX7_grow_69 : decode cX7_grow 69 = .ok (.aaload, 1) := by decide +kernel
theorem dX7_grow_70 : decode cX7_grow 70 = .ok (.aload_n 0, 1) := by decide +kernel
theorem dX7_grow_71 : decode cX7_grow 71 = .ok (.getfield 18, 3) := by decide +kernel
theorem dX7_grow_74 : decode cX7_grow 74 = .ok (.iload_n 1, 1) := by decide +kernel
theorem dX7_grow_75 : decode cX7_grow 75 = .ok (.iaload, 1) := by decide +kernel
theorem dX7_grow_76 : decode cX7_grow 76 = .ok (.iload_n 2, 1) := by decide +kernel
theorem dX7_grow_77 : decode cX7_grow 77 = .ok (.iastore, 1) := by decide +kernel
theorem dX7_grow_78 : decode cX7_grow 78 = .ok (.aload_n 0, 1) := by decide +kernel
theorem dX7_grow_79 : decode cX7_grow 79 = .ok (.getfield 18, 3) := by decide +kernel
theorem dX7_grow_82 : decode cX7_grow 82 = .ok (.iload_n 1, 1) := by decide +kernel
theorem dX7_grow_83 : decode cX7_grow 83 = .ok (.dup2, 1) := by decide +kernel
theorem dX7_grow_84 : decode cX7_grow 84 = .ok (.iaload, 1) := by decide +kernel
theorem dX7_grow_85 : decode cX7_grow 85 = .ok (.iconst 1, 1) := by decide +kernel
theorem dX7_grow_86 : decode cX7_grow 86 = .ok (.iadd, 1) := by decide +kernel
theorem dX7_grow_87 : decode cX7_grow 87 = .ok (.iastore, 1) := by decide +kernel
theorem dX7_grow_88 : decode cX7_grow 88 = .ok (.aload_n 0, 1) := by decide +kernel
theorem dX7_grow_89 : decode cX7_grow 89 = .ok (.dup, 1) := by decide +kernel
theorem dX7_grow_90 : decode cX7_grow 90 = .ok (.getfield 136, 3) := by decide +kernel
theorem dX7_grow_93 : decode cX7_grow 93 = .ok (.iconst 1, 1) := by decide +kernel
theorem dX7_grow_94 : decode cX7_grow 94 = .ok (.iadd, 1) := by decide +kernel
theorem dX7_grow_95 : decode cX7_grow 95 = .ok (.putfield 136, 3) := by decide +kernel
theorem dX7_grow_98 : decode cX7_grow 98 = .ok (.iload_n 3, 1) := by decide +kernel
theorem dX7_grow_99 : decode cX7_grow 99 = .ok (.ireturn, 1) := by decide +kernel
theorem dX7_shrink_0 : decode cX7_shrink 0 = .ok (.aload_n 0, 1) := by decide +kernel
theorem dX7_shrink_1 : decode cX7_shrink 1 = .ok (.iload_n 1, 1) := by decide +kernel
theorem dX7_shrink_2 : decode cX7_shrink 2 = .ok (.invokestatic 113, 3) := by decide +kernel
theorem dX7_shrink_5 : decode cX7_shrink 5 = .ok (.iconst 1, 1) := by decide +kernel
theorem dX7_shrink_6 : decode cX7_shrink 6 = .ok (.invokevirtual 51, 3) := by decide +kernel
theorem dX7_shrink_9 : decode cX7_shrink 9 = .ok (.ifCond .ne 25, 3) := by decide +kernel
theorem dX7_shrink_12 : decode cX7_shrink 12 = .ok (.aload_n 0, 1) := by decide +kernel
theorem dX7_shrink_13 : decode cX7_shrink 13 = .ok (.aload_n 0, 1) := by decide +kernel
theorem dX7_shrink_14 : decode cX7_shrink 14 = .ok (.getfield 18, 3) := by decide +kernel
theorem dX7_shrink_17 : decode cX7_shrink 17 = .ok (.iload_n 1, 1) := by decide +kernel
theorem dX7_shrink_18 : decode cX7_shrink 18 = .ok (.iaload, 1) := by decide +kernel
theorem dX7_shrink_19 : decode cX7_shrink 19 = .ok (.ifCond .ne 7, 3) := by decide +kernel
theorem dX7_shrink_22 : decode cX7_shrink 22 = .ok (.iconst 1, 1) := by decide +kernel
theorem dX7_shrink_23 : decode cX7_shrink 23 = .ok (.goto 4, 3) := by decide +kernel
theorem dX7_shrink_26 : decode cX7_shrink 26 = .ok (.iconst 0, 1) := by decide +kernel
theorem dX7_shrink_27 : decode cX7_shrink 27 = .ok (.iconst 2, 1) := by decide +kernel
theorem dX7_shrink_28 : decode cX7_shrink 28 = .ok (.invokevirtual 25, 3) := by decide +kernel
theorem dX7_shrink_31 : decode cX7_shrink 31 = .ok (.ifCond .eq 5, 3) := by decide +kernel
theorem dX7_shrink_34 : decode cX7_shrink 34 = .ok (.iconst 0, 1) := by decide +kernel
theorem dX7_shrink_35 : decode cX7_shrink 35 = .ok (.ireturn, 1) := by decide +kernel
theorem dX7_shrink_36 : decode cX7_shrink 36 = .ok (.aload_n 0, 1) := by decide +kernel
theorem dX7_shrink_37 : decode cX7_shrink 37 = .ok (.getfield 18, 3) := by decide +kernel
theorem dX7_shrink_40 : decode cX7_shrink 40 = .ok (.iload_n 1, 1) := by decide +kernel
theorem dX7_shrink_41 : decode cX7_shrink 41 = .ok (.dup2, 1) := by decide +kernel
theorem dX7_shrink_42 : decode cX7_shrink 42 = .ok (.iaload, 1) := by decide +kernel
theorem dX7_shrink_43 : decode cX7_shrink 43 = .ok (.iconst 1, 1) := by decide +kernel
theorem dX7_shrink_44 : decode cX7_shrink 44 = .ok (.isub, 1) := by decide +kernel
theorem dX7_shrink_45 : decode cX7_shrink 45 = .ok (.iastore, 1) := by decide +kernel
theorem dX7_shrink_46 : decode cX7_shrink 46 = .ok (.aload_n 0, 1) := by decide +kernel
theorem dX7_shrink_47 : decode cX7_shrink 47 = .ok (.dup, 1) := by decide +kernel
theorem dX7_shrink_48 : decode cX7_shrink 48 = .ok (.getfield 136, 3) := by decide +kernel
theorem dX7_shrink_51 : decode cX7_shrink 51 = .ok (.iconst 1, 1) := by decide +kernel
theorem dX7_shrink_52 : decode cX7_shrink 52 = .ok (.iadd, 1) := by decide +kernel
theorem dX7_shrink_53 : decode cX7_shrink 53 = .ok (.putfield 136, 3) := by decide +kernel
theorem dX7_shrink_56 : decode cX7_shrink 56 = .ok (.aload_n 0, 1) := by decide +kernel
theorem dX7_shrink_57 : decode cX7_shrink 57 = .ok (.getfield 15, 3) := by decide +kernel
theorem dX7_shrink_60 : decode cX7_shrink 60 = .ok (.iload_n 1, 1) := by decide +kernel
theorem dX7_shrink_61 : decode cX7_shrink 61 = .ok (.aaload, 1) := by decide +kernel
theorem dX7_shrink_62 : decode cX7_shrink 62 = .ok (.aload_n 0, 1) := by decide +kernel
theorem dX7_shrink_63 : decode cX7_shrink 63 = .ok (.getfield 18, 3) := by decide +kernel
theorem dX7_shrink_66 : decode cX7_shrink 66 = .ok (.iload_n 1, 1) := by decide +kernel
theorem dX7_shrink_67 : decode cX7_shrink 67 = .ok (.iaload, 1) := by decide +kernel
theorem dX7_shrink_68 : decode cX7_shrink 68 = .ok (.iaload, 1) := by decide +kernel
theorem dX7_shrink_69 : decode cX7_shrink 69 = .ok (.ireturn, 1) := by decide +kernel
theorem dX7_fresh_0 : decode cX7_fresh 0 = .ok (.aload_n 0, 1) := by decide +kernel
theorem dX7_fresh_1 : decode cX7_fresh 1 = .ok (.iload_n 1, 1) := by decide +kernel
theorem dX7_fresh_2 : decode cX7_fresh 2 = .ok (.invokestatic 113, 3) := by decide +kernel
theorem dX7_fresh_5 : decode cX7_fresh 5 = .ok (.iconst 1, 1) := by decide +kernel
theorem dX7_fresh_6 : decode cX7_fresh 6 = .ok (.invokevirtual 51, 3) := by decide +kernel
theorem dX7_fresh_9 : decode cX7_fresh 9 = .ok (.ifCond .eq 5, 3) := by decide +kernel
theorem dX7_fresh_12 : decode cX7_fresh 12 = .ok (.iconst 0, 1) := by decide +kernel
theorem dX7_fresh_13 : decode cX7_fresh 13 = .ok (.ireturn, 1) := by decide +kernel
theorem dX7_fresh_14 : decode cX7_fresh 14 = .ok (.aload_n 0, 1) := by decide +kernel
theorem dX7_fresh_15 : decode cX7_fresh 15 = .ok (.getfield 18, 3) := by decide +kernel
theorem dX7_fresh_18 : decode cX7_fresh 18 = .ok (.iload_n 1, 1) := by decide +kernel
theorem dX7_fresh_19 : decode cX7_fresh 19 = .ok (.iaload, 1) := by decide +kernel
theorem dX7_fresh_20 : decode cX7_fresh 20 = .ok (.istore_n 2, 1) := by decide +kernel
theorem dX7_fresh_21 : decode cX7_fresh 21 = .ok (.aload_n 0, 1) := by decide +kernel
theorem dX7_fresh_22 : decode cX7_fresh 22 = .ok (.getfield 18, 3) := by decide +kernel
theorem dX7_fresh_25 : decode cX7_fresh 25 = .ok (.iload_n 1, 1) := by decide +kernel
theorem dX7_fresh_26 : decode cX7_fresh 26 = .ok (.iconst 0, 1) := by decide +kernel
theorem dX7_fresh_27 : decode cX7_fresh 27 = .ok (.iastore, 1) := by decide +kernel
theorem dX7_fresh_28 : decode cX7_fresh 28 = .ok (.aload_n 0, 1) := by decide +kernel
theorem dX7_fresh_29 : decode cX7_fresh 29 = .ok (.dup, 1) := by decide +kernel
theorem dX7_fresh_30 : decode cX7_fresh 30 = .ok (.getfield 136, 3) := by decide +kernel
theorem dX7_fresh_33 : decode cX7_fresh 33 = .ok (.iconst 1, 1) := by decide +kernel
theorem dX7_fresh_34 : decode cX7_fresh 34 = .ok (.iadd, 1) := by decide +kernel
theorem dX7_fresh_35 : decode cX7_fresh 35 = .ok (.putfield 136, 3) := by decide +kernel
theorem dX7_fresh_38 : decode cX7_fresh 38 = .ok (.iload_n 2, 1) := by decide +kernel
theorem dX7_fresh_39 : decode cX7_fresh 39 = .ok (.ireturn, 1) := by decide +kernel
theorem dX7_length_0 : decode cX7_length 0 = .ok (.aload_n 0, 1) := by decide +kernel
theorem dX7_length_1 : decode cX7_length 1 = .ok (.iload_n 1, 1) := by decide +kernel
theorem dX7_length_2 : decode cX7_length 2 = .ok (.invokestatic 33, 3) := by decide +kernel
theorem dX7_length_5 : decode cX7_length 5 = .ok (.iconst 1, 1) := by decide +kernel
theorem dX7_length_6 : decode cX7_length 6 = .ok (.invokevirtual 51, 3) := by decide +kernel
theorem dX7_length_9 : decode cX7_length 9 = .ok (.ifCond .eq 7, 3) := by decide +kernel
theorem dX7_length_12 : decode cX7_length 12 = .ok (.iconst 0, 1) := by decide +kernel
theorem dX7_length_13 : decode cX7_length 13 = .ok (.goto 10, 3) := by decide +kernel
theorem dX7_length_16 : decode cX7_length 16 = .ok (.aload_n 0, 1) := by decide +kernel
theorem dX7_length_17 : decode cX7_length 17 = .ok (.getfield 9, 3) := by decide +kernel
theorem dX7_length_20 : decode cX7_length 20 = .ok (.iload_n 1, 1) := by decide +kernel
theorem dX7_length_21 : decode cX7_length 21 = .ok (.aaload, 1) := by decide +kernel
theorem dX7_length_22 : decode cX7_length 22 = .ok (.arraylength, 1) := by decide +kernel
theorem dX7_length_23 : decode cX7_length 23 = .ok (.ireturn, 1) := by decide +kernel
theorem dX7_isB_0 : decode cX7_isB 0 = .ok (.aload_n 0, 1) := by decide +kernel
theorem dX7_isB_1 : decode cX7_isB 1 = .ok (.aload_n 0, 1) := by decide +kernel
theorem dX7_isB_2 : decode cX7_isB 2 = .ok (.iload_n 1, 1) := by decide +kernel
theorem dX7_isB_3 : decode cX7_isB 3 = .ok (.iload_n 2, 1) := by decide +kernel
theorem dX7_isB_4 : decode cX7_isB 4 = .ok (.invokevirtual 83, 3) := by decide +kernel
theorem dX7_isB_7 : decode cX7_isB 7 = .ok (.iconst 1, 1) := by decide +kernel
theorem dX7_isB_8 : decode cX7_isB 8 = .ok (.invokevirtual 51, 3) := by decide +kernel
theorem dX7_isB_11 : decode cX7_isB 11 = .ok (.ifCond .ne 19, 3) := by decide +kernel
theorem dX7_isB_14 : decode cX7_isB 14 = .ok (.aload_n 0, 1) := by decide +kernel
theorem dX7_isB_15 : decode cX7_isB 15 = .ok (.getfield 9, 3) := by decide +kernel
theorem dX7_isB_18 : decode cX7_isB 18 = .ok (.iload_n 1, 1) := by decide +kernel
theorem dX7_isB_19 : decode cX7_isB 19 = .ok (.aaload, 1) := by decide +kernel
theorem dX7_isB_20 : decode cX7_isB 20 = .ok (.iload_n 2, 1) := by decide +kernel
theorem dX7_isB_21 : decode cX7_isB 21 = .ok (.iaload, 1) := by decide +kernel
theorem dX7_isB_22 : decode cX7_isB 22 = .ok (.iconst 1, 1) := by decide +kernel
theorem dX7_isB_23 : decode cX7_isB 23 = .ok (.if_icmp .ne 7, 3) := by decide +kernel
theorem dX7_isB_26 : decode cX7_isB 26 = .ok (.iconst 1, 1) := by decide +kernel
theorem dX7_isB_27 : decode cX7_isB 27 = .ok (.goto 4, 3) := by decide +kernel
theorem dX7_isB_30 : decode cX7_isB 30 = .ok (.iconst 0, 1) := by decide +kernel
theorem dX7_isB_31 : decode cX7_isB 31 = .ok (.ireturn, 1) := by decide +kernel
theorem dX7_textOf_0 : decode cX7_textOf 0 = .ok (.new 139, 3) := by decide +kernel
theorem dX7_textOf_3 : decode cX7_textOf 3 = .ok (.dup, 1) := by decide +kernel
theorem dX7_textOf_4 : decode cX7_textOf 4 = .ok (.invokespecial 141, 3) := by decide +kernel
theorem dX7_textOf_7 : decode cX7_textOf 7 = .ok (.astore_n 1, 1) := by decide +kernel
theorem dX7_textOf_8 : decode cX7_textOf 8 = .ok (.aload_n 0, 1) := by decide +kernel
theorem dX7_textOf_9 : decode cX7_textOf 9 = .ok (.astore_n 2, 1) := by decide +kernel
theorem dX7_textOf_10 : decode cX7_textOf 10 = .ok (.aload_n 2, 1) := by decide +kernel
theorem dX7_textOf_11 : decode cX7_textOf 11 = .ok (.arraylength, 1) := by decide +kernel
theorem dX7_textOf_12 : decode cX7_textOf 12 = .ok (.istore_n 3, 1) := by decide +kernel
theorem dX7_textOf_13 : decode cX7_textOf 13 = .ok (.iconst 0, 1) := by decide +kernel
theorem dX7_textOf_14 : decode cX7_textOf 14 = .ok (.istore 4, 2) := by decide +kernel
theorem dX7_textOf_16 : decode cX7_textOf 16 = .ok (.iload 4, 2) := by decide +kernel
theorem dX7_textOf_18 : decode cX7_textOf 18 = .ok (.iload_n 3, 1) := by decide +kernel
theorem dX7_textOf_19 : decode cX7_textOf 19 = .ok (.if_icmp .ge 33, 3) := by decide +kernel
theorem dX7_textOf_22 : decode cX7_textOf 22 = .ok (.aload_n 2, 1) := by decide +kernel
theorem dX7_textOf_23 : decode cX7_textOf 23 = .ok (.iload 4, 2) := by decide +kernel
theorem dX7_textOf_25 : decode cX7_textOf 25 = .ok (.iaload, 1) := by decide +kernel
theorem dX7_textOf_26 : decode cX7_textOf 26 = .ok (.istore 5, 2) := by decide +kernel
theorem dX7_textOf_28 : decode cX7_textOf 28 = .ok (.aload_n 1, 1) := by decide +kernel
theorem dX7_textOf_29 : decode cX7_textOf 29 = .ok (.iload 5, 2) := by decide +kernel
theorem dX7_textOf_31 : decode cX7_textOf 31 = .ok (.iconst 1, 1) := by decide +kernel
theorem dX7_textOf_32 : decode cX7_textOf 32 = .ok (.if_icmp .ne 8, 3) := by decide +kernel
theorem dX7_textOf_35 : decode cX7_textOf 35 = .ok (.bipush 98, 2) := by decide +kernel
theorem dX7_textOf_37 : decode cX7_textOf 37 = .ok (.goto 5, 3) := by decide +kernel
theorem dX7_textOf_40 : decode cX7_textOf 40 = .ok (.bipush 97, 2) := by decide +kernel
theorem dX7_textOf_42 : decode cX7_textOf 42 = .ok (.invokevirtual 142, 3) := by decide +kernel
theorem dX7_textOf_45 : decode cX7_textOf 45 = .ok (.pop, 1) := by decide +kernel
theorem dX7_textOf_46 : decode cX7_textOf 46 = .ok (.iinc 4 1, 3) := by decide +kernel
theorem dX7_textOf_49 : decode cX7_textOf 49 = .ok (.goto (-33), 3) := by decide +kernel
theorem dX7_textOf_52 : decode cX7_textOf 52 = .ok (.aload_n 1, 1) := by decide +kernel
theorem dX7_textOf_53 : decode cX7_textOf 53 = .ok (.invokevirtual 146, 3) := by decide +kernel
theorem dX7_textOf_56 : decode cX7_textOf 56 = .ok (.areturn, 1) := by decide +kernel
theorem dX7_text_0 : decode cX7_text 0 = .ok (.aload_n 0, 1) := by decide +kernel
theorem dX7_text_1 : decode cX7_text 1 = .ok (.iload_n 1, 1) := by decide +kernel
theorem dX7_text_2 : decode cX7_text 2 = .ok (.invokestatic 33, 3) := by decide +kernel
theorem dX7_text_5 : decode cX7_text 5 = .ok (.iconst 1, 1) := by decide +kernel
theorem dX7_text_6 : decode cX7_text 6 = .ok (.invokevirtual 51, 3) := by decide +kernel
theorem dX7_text_9 : decode cX7_text 9 = .ok (.ifCond .eq 8, 3) := by decide +kernel
theorem dX7_text_12 : decode cX7_text 12 = .ok (.ldc 150, 2) := by decide +kernel
theorem dX7_text_14 : decode cX7_text 14 = .ok (.goto 12, 3) := by decide +kernel
theorem dX7_text_17 : decode cX7_text 17 = .ok (.aload_n 0, 1) := by decide +kernel
theorem dX7_text_18 : decode cX7_text 18 = .ok (.getfield 9, 3) := by decide +kernel
theorem dX7_text_21 : decode cX7_text 21 = .ok (.iload_n 1, 1) := by decide +kernel
theorem dX7_text_22 : decode cX7_text 22 = .ok (.aaload, 1) := by decide +kernel
theorem dX7_text_23 : decode cX7_text 23 = .ok (.invokestatic 152, 3) := by decide +kernel
theorem dX7_text_26 : decode cX7_text 26 = .ok (.areturn, 1) := by decide +kernel
theorem dX7_count_0 : decode cX7_count 0 = .ok (.aload_n 0, 1) := by decide +kernel
theorem dX7_count_1 : decode cX7_count 1 = .ok (.iload_n 1, 1) := by decide +kernel
theorem dX7_count_2 : decode cX7_count 2 = .ok (.invokestatic 33, 3) := by decide +kernel
theorem dX7_count_5 : decode cX7_count 5 = .ok (.iconst 1, 1) := by decide +kernel
theorem dX7_count_6 : decode cX7_count 6 = .ok (.invokevirtual 51, 3) := by decide +kernel
theorem dX7_count_9 : decode cX7_count 9 = .ok (.ifCond .eq 5, 3) := by decide +kernel
theorem dX7_count_12 : decode cX7_count 12 = .ok (.iconst 0, 1) := by decide +kernel
theorem dX7_count_13 : decode cX7_count 13 = .ok (.ireturn, 1) := by decide +kernel
theorem dX7_count_14 : decode cX7_count 14 = .ok (.aload_n 0, 1) := by decide +kernel
theorem dX7_count_15 : decode cX7_count 15 = .ok (.getfield 9, 3) := by decide +kernel
theorem dX7_count_18 : decode cX7_count 18 = .ok (.iload_n 1, 1) := by decide +kernel
theorem dX7_count_19 : decode cX7_count 19 = .ok (.aaload, 1) := by decide +kernel
theorem dX7_count_20 : decode cX7_count 20 = .ok (.invokestatic 41, 3) := by decide +kernel
theorem dX7_count_23 : decode cX7_count 23 = .ok (.istore_n 3, 1) := by decide +kernel
theorem dX7_count_24 : decode cX7_count 24 = .ok (.iload_n 2, 1) := by decide +kernel
theorem dX7_count_25 : decode cX7_count 25 = .ok (.ifCond .eq 7, 3) := by decide +kernel
theorem dX7_count_28 : decode cX7_count 28 = .ok (.iload_n 3, 1) := by decide +kernel
theorem dX7_count_29 : decode cX7_count 29 = .ok (.goto 12, 3) := by decide +kernel
theorem dX7_count_32 : decode cX7_count 32 = .ok (.aload_n 0, 1) := by decide +kernel
theorem dX7_count_33 : decode cX7_count 33 = .ok (.getfield 9, 3) := by decide +kernel
theorem dX7_count_36 : decode cX7_count 36 = .ok (.iload_n 1, 1) := by decide +kernel
theorem dX7_count_37 : decode cX7_count 37 = .ok (.aaload, 1) := by decide +kernel
theorem dX7_count_38 : decode cX7_count 38 = .ok (.arraylength, 1) := by decide +kernel
theorem dX7_count_39 : decode cX7_count 39 = .ok (.iload_n 3, 1) := by decide +kernel
theorem dX7_count_40 : decode cX7_count 40 = .ok (.isub, 1) := by decide +kernel
theorem dX7_count_41 : decode cX7_count 41 = .ok (.ireturn, 1) := by decide +kernel
theorem dX7_find_0 : decode cX7_find 0 = .ok (.aload_n 0, 1) := by decide +kernel
theorem dX7_find_1 : decode cX7_find 1 = .ok (.aload_n 0, 1) := by decide +kernel
theorem dX7_find_2 : decode cX7_find 2 = .ok (.iload_n 1, 1) := by decide +kernel
theorem dX7_find_3 : decode cX7_find 3 = .ok (.iload_n 3, 1) := by decide +kernel
theorem dX7_find_4 : decode cX7_find 4 = .ok (.invokevirtual 75, 3) := by decide +kernel
theorem dX7_find_7 : decode cX7_find 7 = .ok (.ifCond .ne 10, 3) := by decide +kernel
theorem dX7_find_10 : decode cX7_find 10 = .ok (.iload_n 2, 1) := by decide +kernel
theorem dX7_find_11 : decode cX7_find 11 = .ok (.invokestatic 33, 3) := by decide +kernel
theorem dX7_find_14 : decode cX7_find 14 = .ok (.ifCond .eq 7, 3) := by decide +kernel
theorem dX7_find_17 : decode cX7_find 17 = .ok (.iconst 1, 1) := by decide +kernel
theorem dX7_find_18 : decode cX7_find 18 = .ok (.goto 4, 3) := by decide +kernel
theorem dX7_find_21 : decode cX7_find 21 = .ok (.iconst 0, 1) := by decide +kernel
theorem dX7_find_22 : decode cX7_find 22 = .ok (.iconst 1, 1) := by decide +kernel
theorem dX7_find_23 : decode cX7_find 23 = .ok (.invokevirtual 51, 3) := by decide +kernel
theorem dX7_find_26 : decode cX7_find 26 = .ok (.ifCond .eq 5, 3) := by decide +kernel
theorem dX7_find_29 : decode cX7_find 29 = .ok (.iconst 0, 1) := by decide +kernel
theorem dX7_find_30 : decode cX7_find 30 = .ok (.ireturn, 1) := by decide +kernel
theorem dX7_find_31 : decode cX7_find 31 = .ok (.iload_n 3, 1) := by decide +kernel
theorem dX7_find_32 : decode cX7_find 32 = .ok (.istore 4, 2) := by decide +kernel
theorem dX7_find_34 : decode cX7_find 34 = .ok (.iload 4, 2) := by decide +kernel
theorem dX7_find_36 : decode cX7_find 36 = .ok (.aload_n 0, 1) := by decide +kernel
theorem dX7_find_37 : decode cX7_find 37 = .ok (.getfield 9, 3) := by decide +kernel
theorem dX7_find_40 : decode cX7_find 40 = .ok (.iload_n 1, 1) := by decide +kernel
theorem dX7_find_41 : decode cX7_find 41 = .ok (.aaload, 1) := by decide +kernel
theorem dX7_find_42 : decode cX7_find 42 = .ok (.arraylength, 1) := by decide +kernel
theorem dX7_find_43 : decode cX7_find 43 = .ok (.if_icmp .gt 32, 3) := by decide +kernel
theorem dX7_find_46 : decode cX7_find 46 = .ok (.aload_n 0, 1) := by decide +kernel
theorem dX7_find_47 : decode cX7_find 47 = .ok (.getfield 9, 3) := by decide +kernel
theorem dX7_find_50 : decode cX7_find 50 = .ok (.iload_n 1, 1) := by decide +kernel
theorem dX7_find_51 : decode cX7_find 51 = .ok (.aaload, 1) := by decide +kernel
theorem dX7_find_52 : decode cX7_find 52 = .ok (.aload_n 0, 1) := by decide +kernel
theorem dX7_find_53 : decode cX7_find 53 = .ok (.getfield 9, 3) := by decide +kernel
theorem dX7_find_56 : decode cX7_find 56 = .ok (.iload_n 2, 1) := by decide +kernel
theorem dX7_find_57 : decode cX7_find 57 = .ok (.aaload, 1) := by decide +kernel
theorem dX7_find_58 : decode cX7_find 58 = .ok (.iload 4, 2) := by decide +kernel
theorem dX7_find_60 : decode cX7_find 60 = .ok (.invokestatic 37, 3) := by decide +kernel
theorem dX7_find_63 : decode cX7_find 63 = .ok (.ifCond .eq 6, 3) := by decide +kernel
theorem dX7_find_66 : decode cX7_find 66 = .ok (.iload 4, 2) := by decide +kernel
theorem dX7_find_68 : decode cX7_find 68 = .ok (.ireturn, 1) := by decide +kernel
theorem dX7_find_69 : decode cX7_find 69 = .ok (.iinc 4 1, 3) := by decide +kernel
theorem dX7_find_72 : decode cX7_find 72 = .ok (.goto (-38), 3) := by decide +kernel
theorem dX7_find_75 : decode cX7_find 75 = .ok (.iconst (-1), 1) := by decide +kernel
theorem dX7_find_76 : decode cX7_find 76 = .ok (.ireturn, 1) := by decide +kernel
theorem dX7_findLast_0 : decode cX7_findLast 0 = .ok (.aload_n 0, 1) := by decide +kernel
theorem dX7_findLast_1 : decode cX7_findLast 1 = .ok (.aload_n 0, 1) := by decide +kernel
theorem dX7_findLast_2 : decode cX7_findLast 2 = .ok (.iload_n 1, 1) := by decide +kernel
theorem dX7_findLast_3 : decode cX7_findLast 3 = .ok (.iload_n 3, 1) := by decide +kernel
theorem dX7_findLast_4 : decode cX7_findLast 4 = .ok (.invokevirtual 75, 3) := by decide +kernel
theorem dX7_findLast_7 : decode cX7_findLast 7 = .ok (.ifCond .ne 10, 3) := by decide +kernel
theorem dX7_findLast_10 : decode cX7_findLast 10 = .ok (.iload_n 2, 1) := by decide +kernel
theorem dX7_findLast_11 : decode cX7_findLast 11 = .ok (.invokestatic 33, 3) := by decide +kernel
theorem dX7_findLast_14 : decode cX7_findLast 14 = .ok (.ifCond .eq 7, 3) := by decide +kernel
theorem dX7_findLast_17 : decode cX7_findLast 17 = .ok (.iconst 1, 1) := by decide +kernel
theorem dX7_findLast_18 : decode cX7_findLast 18 = .ok (.goto 4, 3) := by decide +kernel
theorem dX7_findLast_21 : decode cX7_findLast 21 = .ok (.iconst 0, 1) := by decide +kernel
theorem dX7_findLast_22 : decode cX7_findLast 22 = .ok (.iconst 1, 1) := by decide +kernel
theorem dX7_findLast_23 : decode cX7_findLast 23 = .ok (.invokevirtual 51, 3) := by decide +kernel
theorem dX7_findLast_26 : decode cX7_findLast 26 = .ok (.ifCond .eq 5, 3) := by decide +kernel
theorem dX7_findLast_29 : decode cX7_findLast 29 = .ok (.iconst 0, 1) := by decide +kernel
theorem dX7_findLast_30 : decode cX7_findLast 30 = .ok (.ireturn, 1) := by decide +kernel
theorem dX7_findLast_31 : decode cX7_findLast 31 = .ok (.iload_n 3, 1) := by decide +kernel
theorem dX7_findLast_32 : decode cX7_findLast 32 = .ok (.istore 4, 2) := by decide +kernel
theorem dX7_findLast_34 : decode cX7_findLast 34 = .ok (.iload 4, 2) := by decide +kernel
theorem dX7_findLast_36 : decode cX7_findLast 36 = .ok (.ifCond .lt 32, 3) := by decide +kernel
theorem dX7_findLast_39 : decode cX7_findLast 39 = .ok (.aload_n 0, 1) := by decide +kernel
theorem dX7_findLast_40 : decode cX7_findLast 40 = .ok (.getfield 9, 3) := by decide +kernel
theorem dX7_findLast_43 : decode cX7_findLast 43 = .ok (.iload_n 1, 1) := by decide +kernel
theorem dX7_findLast_44 : decode cX7_findLast 44 = .ok (.aaload, 1) := by decide +kernel
theorem dX7_findLast_45 : decode cX7_findLast 45 = .ok (.aload_n 0, 1) := by decide +kernel
theorem dX7_findLast_46 : decode cX7_findLast 46 = .ok (.getfield 9, 3) := by decide +kernel
theorem dX7_findLast_49 : decode cX7_findLast 49 = .ok (.iload_n 2, 1) := by decide +kernel
theorem dX7_findLast_50 : decode cX7_findLast 50 = .ok (.aaload, 1) := by decide +kernel
theorem dX7_findLast_51 : decode cX7_findLast 51 = .ok (.iload 4, 2) := by decide +kernel
theorem dX7_findLast_53 : decode cX7_findLast 53 = .ok (.invokestatic 37, 3) := by decide +kernel
theorem dX7_findLast_56 : decode cX7_findLast 56 = .ok (.ifCond .eq 6, 3) := by decide +kernel
theorem dX7_findLast_59 : decode cX7_findLast 59 = .ok (.iload 4, 2) := by decide +kernel
theorem dX7_findLast_61 : decode cX7_findLast 61 = .ok (.ireturn, 1) := by decide +kernel
theorem dX7_findLast_62 : decode cX7_findLast 62 = .ok (.iinc 4 (-1), 3) := by decide +kernel
theorem dX7_findLast_65 : decode cX7_findLast 65 = .ok (.goto (-31), 3) := by decide +kernel
theorem dX7_findLast_68 : decode cX7_findLast 68 = .ok (.iconst (-1), 1) := by decide +kernel
theorem dX7_findLast_69 : decode cX7_findLast 69 = .ok (.ireturn, 1) := by decide +kernel
theorem dX7_order_0 : decode cX7_order 0 = .ok (.aload_n 0, 1) := by decide +kernel
theorem dX7_order_1 : decode cX7_order 1 = .ok (.iload_n 1, 1) := by decide +kernel
theorem dX7_order_2 : decode cX7_order 2 = .ok (.invokestatic 33, 3) := by decide +kernel
theorem dX7_order_5 : decode cX7_order 5 = .ok (.ifCond .ne 10, 3) := by decide +kernel
theorem dX7_order_8 : decode cX7_order 8 = .ok (.iload_n 2, 1) := by decide +kernel
theorem dX7_order_9 : decode cX7_order 9 = .ok (.invokestatic 33, 3) := by decide +kernel
theorem dX7_order_12 : decode cX7_order 12 = .ok (.ifCond .eq 7, 3) := by decide +kernel
theorem dX7_order_15 : decode cX7_order 15 = .ok (.iconst 1, 1) := by decide +kernel
theorem dX7_order_16 : decode cX7_order 16 = .ok (.goto 4, 3) := by decide +kernel
theorem dX7_order_19 : decode cX7_order 19 = .ok (.iconst 0, 1) := by decide +kernel
theorem dX7_order_20 : decode cX7_order 20 = .ok (.iconst 1, 1) := by decide +kernel
theorem dX7_order_21 : decode cX7_order 21 = .ok (.invokevirtual 51, 3) := by decide +kernel
theorem dX7_order_24 : decode cX7_order 24 = .ok (.ifCond .eq 5, 3) := by decide +kernel
theorem dX7_order_27 : decode cX7_order 27 = .ok (.iconst 0, 1) := by decide +kernel
theorem dX7_order_28 : decode cX7_order 28 = .ok (.ireturn, 1) := by decide +kernel
theorem dX7_order_29 : decode cX7_order 29 = .ok (.aload_n 0, 1) := by decide +kernel
theorem dX7_order_30 : decode cX7_order 30 = .ok (.getfield 9, 3) := by decide +kernel
theorem dX7_order_33 : decode cX7_order 33 = .ok (.iload_n 1, 1) := by decide +kernel
theorem dX7_order_34 : decode cX7_order 34 = .ok (.aaload, 1) := by decide +kernel
theorem dX7_order_35 : decode cX7_order 35 = .ok (.astore_n 3, 1) := by decide +kernel
theorem dX7_order_36 : decode cX7_order 36 = .ok (.aload_n 0, 1) := by decide +kernel
theorem dX7_order_37 : decode cX7_order 37 = .ok (.getfield 9, 3) := by decide +kernel
theorem dX7_order_40 : decode cX7_order 40 = .ok (.iload_n 2, 1) := by decide +kernel
theorem dX7_order_41 : decode cX7_order 41 = .ok (.aaload, 1) := by decide +kernel
theorem dX7_order_42 : decode cX7_order 42 = .ok (.astore 4, 2) := by decide +kernel
theorem dX7_order_44 : decode cX7_order 44 = .ok (.iconst 0, 1) := by decide +kernel
theorem dX7_order_45 : decode cX7_order 45 = .ok (.istore 5, 2) := by decide +kernel
theorem dX7_order_47 : decode cX7_order 47 = .ok (.iload 5, 2) := by decide +kernel
theorem dX7_order_49 : decode cX7_order 49 = .ok (.aload_n 3, 1) := by decide +kernel
theorem dX7_order_50 : decode cX7_order 50 = .ok (.arraylength, 1) := by decide +kernel
theorem dX7_order_51 : decode cX7_order 51 = .ok (.if_icmp .ge 47, 3) := by decide +kernel
theorem dX7_order_54 : decode cX7_order 54 = .ok (.iload 5, 2) := by decide +kernel
theorem dX7_order_56 : decode cX7_order 56 = .ok (.aload 4, 2) := by decide +kernel
theorem dX7_order_58 : decode cX7_order 58 = .ok (.arraylength, 1) := by decide +kernel
theorem dX7_order_59 : decode cX7_order 59 = .ok (.if_icmp .ge 39, 3) := by decide +kernel
theorem dX7_order_62 : decode cX7_order 62 = .ok (.aload_n 3, 1) := by decide +kernel
theorem dX7_order_63 : decode cX7_order 63 = .ok (.iload 5, 2) := by decide +kernel
theorem dX7_order_65 : decode cX7_order 65 = .ok (.iaload, 1) := by decide +kernel
theorem dX7_order_66 : decode cX7_order 66 = .ok (.aload 4, 2) := by decide +kernel
theorem dX7_order_68 : decode cX7_order 68 = .ok (.iload 5, 2) := by decide +kernel
theorem dX7_order_70 : decode cX7_order 70 = .ok (.iaload, 1) := by decide +kernel
theorem dX7_order_71 : decode cX7_order 71 = .ok (.if_icmp .eq 21, 3) := by decide +kernel
theorem dX7_order_74 : decode cX7_order 74 = .ok (.aload_n 3, 1) := by decide +kernel
theorem dX7_order_75 : decode cX7_order 75 = .ok (.iload 5, 2) := by decide +kernel
theorem dX7_order_77 : decode cX7_order 77 = .ok (.iaload, 1) := by decide +kernel
theorem dX7_order_78 : decode cX7_order 78 = .ok (.aload 4, 2) := by decide +kernel
theorem dX7_order_80 : decode cX7_order 80 = .ok (.iload 5, 2) := by decide +kernel
theorem dX7_order_82 : decode cX7_order 82 = .ok (.iaload, 1) := by decide +kernel
theorem dX7_order_83 : decode cX7_order 83 = .ok (.if_icmp .ge 7, 3) := by decide +kernel
theorem dX7_order_86 : decode cX7_order 86 = .ok (.iconst (-1), 1) := by decide +kernel
theorem dX7_order_87 : decode cX7_order 87 = .ok (.goto 4, 3) := by decide +kernel
theorem dX7_order_90 : decode cX7_order 90 = .ok (.iconst 1, 1) := by decide +kernel
theorem dX7_order_91 : decode cX7_order 91 = .ok (.ireturn, 1) := by decide +kernel
theorem dX7_order_92 : decode cX7_order 92 = .ok (.iinc 5 1, 3) := by decide +kernel
theorem dX7_order_95 : decode cX7_order 95 = .ok (.goto (-48), 3) := by decide +kernel
theorem dX7_order_98 : decode cX7_order 98 = .ok (.aload_n 3, 1) := by decide +kernel
theorem dX7_order_99 : decode cX7_order 99 = .ok (.arraylength, 1) := by decide +kernel
theorem dX7_order_100 : decode cX7_order 100 = .ok (.aload 4, 2) := by decide +kernel
theorem dX7_order_102 : decode cX7_order 102 = .ok (.arraylength, 1) := by decide +kernel
theorem dX7_order_103 : decode cX7_order 103 = .ok (.if_icmp .ge 7, 3) := by decide +kernel
theorem dX7_order_106 : decode cX7_order 106 = .ok (.iconst (-1), 1) := by decide +kernel
theorem dX7_order_107 : decode cX7_order 107 = .ok (.goto 16, 3) := by decide +kernel
theorem dX7_order_110 : decode cX7_order 110 = .ok (.aload_n 3, 1) := by decide +kernel
theorem dX7_order_111 : decode cX7_order 111 = .ok (.arraylength, 1) := by decide +kernel
theorem dX7_order_112 : decode cX7_order 112 = .ok (.aload 4, 2) := by decide +kernel
theorem dX7_order_114 : decode cX7_order 114 = .ok (.arraylength, 1) := by decide +kernel
theorem dX7_order_115 : decode cX7_order 115 = .ok (.if_icmp .le 7, 3) := by decide +kernel
theorem dX7_order_118 : decode cX7_order 118 = .ok (.iconst 1, 1) := by decide +kernel
theorem dX7_order_119 : decode cX7_order 119 = .ok (.goto 4, 3) := by decide +kernel
theorem dX7_order_122 : decode cX7_order 122 = .ok (.iconst 0, 1) := by decide +kernel
theorem dX7_order_123 : decode cX7_order 123 = .ok (.ireturn, 1) := by decide +kernel
theorem dX7_isMirrored__0 : decode cX7_isMirrored_ 0 = .ok (.aload_n 0, 1) := by decide +kernel
theorem dX7_isMirrored__1 : decode cX7_isMirrored_ 1 = .ok (.iload_n 1, 1) := by decide +kernel
theorem dX7_isMirrored__2 : decode cX7_isMirrored_ 2 = .ok (.invokestatic 33, 3) := by decide +kernel
theorem dX7_isMirrored__5 : decode cX7_isMirrored_ 5 = .ok (.iconst 1, 1) := by decide +kernel
theorem dX7_isMirrored__6 : decode cX7_isMirrored_ 6 = .ok (.invokevirtual 51, 3) := by decide +kernel
theorem dX7_isMirrored__9 : decode cX7_isMirrored_ 9 = .ok (.ifCond .ne 27, 3) := by decide +kernel
theorem dX7_isMirrored__12 : decode cX7_isMirrored_ 12 = .ok (.aload_n 0, 1) := by decide +kernel
theorem dX7_isMirrored__13 : decode cX7_isMirrored_ 13 = .ok (.getfield 9, 3) := by decide +kernel
theorem dX7_isMirrored__16 : decode cX7_isMirrored_ 16 = .ok (.iload_n 1, 1) := by decide +kernel
theorem dX7_isMirrored__17 : decode cX7_isMirrored_ 17 = .ok (.aaload, 1) := by decide +kernel
theorem dX7_isMirrored__18 : decode cX7_isMirrored_ 18 = .ok (.iconst 0, 1) := by decide +kernel
theorem dX7_isMirrored__19 : decode cX7_isMirrored_ 19 = .ok (.aload_n 0, 1) := by decide +kernel
theorem dX7_isMirrored__20 : decode cX7_isMirrored_ 20 = .ok (.getfield 9, 3) := by decide +kernel
theorem dX7_isMirrored__23 : decode cX7_isMirrored_ 23 = .ok (.iload_n 1, 1) := by decide +kernel
theorem dX7_isMirrored__24 : decode cX7_isMirrored_ 24 = .ok (.aaload, 1) := by decide +kernel
theorem dX7_isMirrored__25 : decode cX7_isMirrored_ 25 = .ok (.arraylength, 1) := by decide +kernel
theorem dX7_isMirrored__26 : decode cX7_isMirrored_ 26 = .ok (.invokestatic 156, 3) := by decide +kernel
theorem dX7_isMirrored__29 : decode cX7_isMirrored_ 29 = .ok (.ifCond .eq 7, 3) := by decide +kernel
theorem dX7_isMirrored__32 : decode cX7_isMirrored_ 32 = .ok (.iconst 1, 1) := by decide +kernel
theorem dX7_isMirrored__33 : decode cX7_isMirrored_ 33 = .ok (.goto 4, 3) := by decide +kernel
theorem dX7_isMirrored__36 : decode cX7_isMirrored_ 36 = .ok (.iconst 0, 1) := by decide +kernel
theorem dX7_isMirrored__37 : decode cX7_isMirrored_ 37 = .ok (.ireturn, 1) := by decide +kernel
theorem dX7_parts_0 : decode cX7_parts 0 = .ok (.iload_n 2, 1) := by decide +kernel
theorem dX7_parts_1 : decode cX7_parts 1 = .ok (.ifCond .eq 13, 3) := by decide +kernel
theorem dX7_parts_4 : decode cX7_parts 4 = .ok (.aload_n 0, 1) := by decide +kernel
theorem dX7_parts_5 : decode cX7_parts 5 = .ok (.arraylength, 1) := by decide +kernel
theorem dX7_parts_6 : decode cX7_parts 6 = .ok (.ifCond .le 8, 3) := by decide +kernel
theorem dX7_parts_9 : decode cX7_parts 9 = .ok (.aload_n 0, 1) := by decide +kernel
theorem dX7_parts_10 : decode cX7_parts 10 = .ok (.arraylength, 1) := by decide +kernel
theorem dX7_parts_11 : decode cX7_parts 11 = .ok (.goto 9, 3) := by decide +kernel
theorem dX7_parts_14 : decode cX7_parts 14 = .ok (.aload_n 0, 1) := by decide +kernel
theorem dX7_parts_15 : decode cX7_parts 15 = .ok (.arraylength, 1) := by decide +kernel
theorem dX7_parts_16 : decode cX7_parts 16 = .ok (.iload_n 1, 1) := by decide +kernel
theorem dX7_parts_17 : decode cX7_parts 17 = .ok (.isub, 1) := by decide +kernel
theorem dX7_parts_18 : decode cX7_parts 18 = .ok (.iconst 1, 1) := by decide +kernel
theorem dX7_parts_19 : decode cX7_parts 19 = .ok (.iadd, 1) := by decide +kernel
theorem dX7_parts_20 : decode cX7_parts 20 = .ok (.ireturn, 1) := by decide +kernel
theorem dX7_spread_0 : decode cX7_spread 0 = .ok (.aload_n 0, 1) := by decide +kernel
theorem dX7_spread_1 : decode cX7_spread 1 = .ok (.iload_n 1, 1) := by decide +kernel
theorem dX7_spread_2 : decode cX7_spread 2 = .ok (.invokestatic 33, 3) := by decide +kernel
theorem dX7_spread_5 : decode cX7_spread 5 = .ok (.iconst 1, 1) := by decide +kernel
theorem dX7_spread_6 : decode cX7_spread 6 = .ok (.invokevirtual 51, 3) := by decide +kernel
theorem dX7_spread_9 : decode cX7_spread 9 = .ok (.ifCond .ne 31, 3) := by decide +kernel
theorem dX7_spread_12 : decode cX7_spread 12 = .ok (.aload_n 0, 1) := by decide +kernel
theorem dX7_spread_13 : decode cX7_spread 13 = .ok (.iload_n 2, 1) := by decide +kernel
theorem dX7_spread_14 : decode cX7_spread 14 = .ok (.iconst 0, 1) := by decide +kernel
theorem dX7_spread_15 : decode cX7_spread 15 = .ok (.aload_n 0, 1) := by decide +kernel
theorem dX7_spread_16 : decode cX7_spread 16 = .ok (.getfield 9, 3) := by decide +kernel
theorem dX7_spread_19 : decode cX7_spread 19 = .ok (.iload_n 1, 1) := by decide +kernel
theorem dX7_spread_20 : decode cX7_spread 20 = .ok (.aaload, 1) := by decide +kernel
theorem dX7_spread_21 : decode cX7_spread 21 = .ok (.arraylength, 1) := by decide +kernel
theorem dX7_spread_22 : decode cX7_spread 22 = .ok (.invokestatic 29, 3) := by decide +kernel
theorem dX7_spread_25 : decode cX7_spread 25 = .ok (.ifCond .ne 7, 3) := by decide +kernel
theorem dX7_spread_28 : decode cX7_spread 28 = .ok (.iconst 1, 1) := by decide +kernel
theorem dX7_spread_29 : decode cX7_spread 29 = .ok (.goto 4, 3) := by decide +kernel
theorem dX7_spread_32 : decode cX7_spread 32 = .ok (.iconst 0, 1) := by decide +kernel
theorem dX7_spread_33 : decode cX7_spread 33 = .ok (.iconst 2, 1) := by decide +kernel
theorem dX7_spread_34 : decode cX7_spread 34 = .ok (.invokevirtual 25, 3) := by decide +kernel
theorem dX7_spread_37 : decode cX7_spread 37 = .ok (.ifCond .eq 5, 3) := by decide +kernel
theorem dX7_spread_40 : decode cX7_spread 40 = .ok (.iconst 0, 1) := by decide +kernel
theorem dX7_spread_41 : decode cX7_spread 41 = .ok (.ireturn, 1) := by decide +kernel
theorem dX7_spread_42 : decode cX7_spread 42 = .ok (.aload_n 0, 1) := by decide +kernel
theorem dX7_spread_43 : decode cX7_spread 43 = .ok (.getfield 9, 3) := by decide +kernel
theorem dX7_spread_46 : decode cX7_spread 46 = .ok (.iload_n 1, 1) := by decide +kernel
theorem dX7_spread_47 : decode cX7_spread 47 = .ok (.aaload, 1) := by decide +kernel
theorem dX7_spread_48 : decode cX7_spread 48 = .ok (.astore 4, 2) := by decide +kernel
theorem dX7_spread_50 : decode cX7_spread 50 = .ok (.iconst 0, 1) := by decide +kernel
theorem dX7_spread_51 : decode cX7_spread 51 = .ok (.istore 5, 2) := by decide +kernel
theorem dX7_spread_53 : decode cX7_spread 53 = .ok (.iload_n 2, 1) := by decide +kernel
theorem dX7_spread_54 : decode cX7_spread 54 = .ok (.istore 6, 2) := by decide +kernel
theorem dX7_spread_56 : decode cX7_spread 56 = .ok (.iconst 0, 1) := by decide +kernel
theorem dX7_spread_57 : decode cX7_spread 57 = .ok (.istore 7, 2) := by decide +kernel
theorem dX7_spread_59 : decode cX7_spread 59 = .ok (.iload 7, 2) := by decide +kernel
theorem dX7_spread_61 : decode cX7_spread 61 = .ok (.aload 4, 2) := by decide +kernel
theorem dX7_spread_63 : decode cX7_spread 63 = .ok (.iload_n 2, 1) := by decide +kernel
theorem dX7_spread_64 : decode cX7_spread 64 = .ok (.iload_n 3, 1) := by decide +kernel
theorem dX7_spread_65 : decode cX7_spread 65 = .ok (.invokestatic 160, 3) := by decide +kernel
theorem dX7_spread_68 : decode cX7_spread 68 = .ok (.if_icmp .ge 62, 3) := by decide +kernel
theorem dX7_spread_71 : decode cX7_spread 71 = .ok (.iconst 0, 1) := by decide +kernel
theorem dX7_spread_72 : decode cX7_spread 72 = .ok (.istore 8, 2) := by decide +kernel
theorem dX7_spread_74 : decode cX7_spread 74 = .ok (.iconst 0, 1) := by decide +kernel
theorem dX7_spread_75 : decode cX7_spread 75 = .ok (.istore 9, 2) := by decide +kernel
theorem dX7_spread_77 : decode cX7_spread 77 = .ok (.iload 9, 2) := by decide +kernel
theorem dX7_spread_79 : decode cX7_spread 79 = .ok (.iload_n 2, 1) := by decide +kernel
theorem dX7_spread_80 : decode cX7_spread 80 = .ok (.if_icmp .ge 26, 3) := by decide +kernel
theorem dX7_spread_83 : decode cX7_spread 83 = .ok (.iload 8, 2) := by decide +kernel
theorem dX7_spread_85 : decode cX7_spread 85 = .ok (.aload 4, 2) := by decide +kernel
theorem dX7_spread_87 : decode cX7_spread 87 = .ok (.iload 7, 2) := by decide +kernel
theorem dX7_spread_89 : decode cX7_spread 89 = .ok (.iload 9, 2) := by decide +kernel
theorem dX7_spread_91 : decode cX7_spread 91 = .ok (.iadd, 1) := by decide +kernel
theorem dX7_spread_92 : decode cX7_spread 92 = .ok (.aload 4, 2) := by decide +kernel
theorem dX7_spread_94 : decode cX7_spread 94 = .ok (.arraylength, 1) := by decide +kernel
theorem dX7_spread_95 : decode cX7_spread 95 = .ok (.irem, 1) := by decide +kernel
theorem dX7_spread_96 : decode cX7_spread 96 = .ok (.iaload, 1) := by decide +kernel
theorem dX7_spread_97 : decode cX7_spread 97 = .ok (.iadd, 1) := by decide +kernel
theorem dX7_spread_98 : decode cX7_spread 98 = .ok (.istore 8, 2) := by decide +kernel
theorem dX7_spread_100 : decode cX7_spread 100 = .ok (.iinc 9 1, 3) := by decide +kernel
theorem dX7_spread_103 : decode cX7_spread 103 = .ok (.goto (-26), 3) := by decide +kernel
theorem dX7_spread_106 : decode cX7_spread 106 = .ok (.iload 5, 2) := by decide +kernel
theorem dX7_spread_108 : decode cX7_spread 108 = .ok (.iload 8, 2) := by decide +kernel
theorem dX7_spread_110 : decode cX7_spread 110 = .ok (.invokestatic 164, 3) := by decide +kernel
theorem dX7_spread_113 : decode cX7_spread 113 = .ok (.istore 5, 2) := by decide +kernel
theorem dX7_spread_115 : decode cX7_spread 115 = .ok (.iload 6, 2) := by decide +kernel
theorem dX7_spread_117 : decode cX7_spread 117 = .ok (.iload 8, 2) := by decide +kernel
theorem dX7_spread_119 : decode cX7_spread 119 = .ok (.invokestatic 170, 3) := by decide +kernel
theorem dX7_spread_122 : decode cX7_spread 122 = .ok (.istore 6, 2) := by decide +kernel
theorem dX7_spread_124 : decode cX7_spread 124 = .ok (.iinc 7 1, 3) := by decide +kernel
theorem dX7_spread_127 : decode cX7_spread 127 = .ok (.goto (-68), 3) := by decide +kernel
theorem dX7_spread_130 : decode cX7_spread 130 = .ok (.iload 5, 2) := by decide +kernel
theorem dX7_spread_132 : decode cX7_spread 132 = .ok (.iload 6, 2) := by decide +kernel
theorem dX7_spread_134 : decode cX7_spread 134 = .ok (.isub, 1) := by decide +kernel
theorem dX7_spread_135 : decode cX7_spread 135 = .ok (.ireturn, 1) := by decide +kernel
theorem dX7_areLike_0 : decode cX7_areLike 0 = .ok (.iconst 0, 1) := by decide +kernel
theorem dX7_areLike_1 : decode cX7_areLike 1 = .ok (.istore 4, 2) := by decide +kernel
theorem dX7_areLike_3 : decode cX7_areLike 3 = .ok (.iload 4, 2) := by decide +kernel
theorem dX7_areLike_5 : decode cX7_areLike 5 = .ok (.iload_n 3, 1) := by decide +kernel
theorem dX7_areLike_6 : decode cX7_areLike 6 = .ok (.if_icmp .ge 32, 3) := by decide +kernel
theorem dX7_areLike_9 : decode cX7_areLike 9 = .ok (.aload_n 0, 1) := by decide +kernel
theorem dX7_areLike_10 : decode cX7_areLike 10 = .ok (.iload_n 1, 1) := by decide +kernel
theorem dX7_areLike_11 : decode cX7_areLike 11 = .ok (.iload 4, 2) := by decide +kernel
theorem dX7_areLike_13 : decode cX7_areLike 13 = .ok (.iadd, 1) := by decide +kernel
theorem dX7_areLike_14 : decode cX7_areLike 14 = .ok (.aload_n 0, 1) := by decide +kernel
theorem dX7_areLike_15 : decode cX7_areLike 15 = .ok (.arraylength, 1) := by decide +kernel
theorem dX7_areLike_16 : decode cX7_areLike 16 = .ok (.irem, 1) := by decide +kernel
theorem dX7_areLike_17 : decode cX7_areLike 17 = .ok (.iaload, 1) := by decide +kernel
theorem dX7_areLike_18 : decode cX7_areLike 18 = .ok (.aload_n 0, 1) := by decide +kernel
theorem dX7_areLike_19 : decode cX7_areLike 19 = .ok (.iload_n 2, 1) := by decide +kernel
theorem dX7_areLike_20 : decode cX7_areLike 20 = .ok (.iload 4, 2) := by decide +kernel
theorem dX7_areLike_22 : decode cX7_areLike 22 = .ok (.iadd, 1) := by decide +kernel
theorem dX7_areLike_23 : decode cX7_areLike 23 = .ok (.aload_n 0, 1) := by decide +kernel
theorem dX7_areLike_24 : decode cX7_areLike 24 = .ok (.arraylength, 1) := by decide +kernel
theorem dX7_areLike_25 : decode cX7_areLike 25 = .ok (.irem, 1) := by decide +kernel
theorem dX7_areLike_26 : decode cX7_areLike 26 = .ok (.iaload, 1) := by decide +kernel
theorem dX7_areLike_27 : decode cX7_areLike 27 = .ok (.if_icmp .eq 5, 3) := by decide +kernel
theorem dX7_areLike_30 : decode cX7_areLike 30 = .ok (.iconst 0, 1) := by decide +kernel
theorem dX7_areLike_31 : decode cX7_areLike 31 = .ok (.ireturn, 1) := by decide +kernel
theorem dX7_areLike_32 : decode cX7_areLike 32 = .ok (.iinc 4 1, 3) := by decide +kernel
theorem dX7_areLike_35 : decode cX7_areLike 35 = .ok (.goto (-32), 3) := by decide +kernel
theorem dX7_areLike_38 : decode cX7_areLike 38 = .ok (.iconst 1, 1) := by decide +kernel
theorem dX7_areLike_39 : decode cX7_areLike 39 = .ok (.ireturn, 1) := by decide +kernel
theorem dX7_kinds_0 : decode cX7_kinds 0 = .ok (.aload_n 0, 1) := by decide +kernel
theorem dX7_kinds_1 : decode cX7_kinds 1 = .ok (.iload_n 1, 1) := by decide +kernel
theorem dX7_kinds_2 : decode cX7_kinds 2 = .ok (.invokestatic 33, 3) := by decide +kernel
theorem dX7_kinds_5 : decode cX7_kinds 5 = .ok (.iconst 1, 1) := by decide +kernel
theorem dX7_kinds_6 : decode cX7_kinds 6 = .ok (.invokevirtual 51, 3) := by decide +kernel
theorem dX7_kinds_9 : decode cX7_kinds 9 = .ok (.ifCond .ne 31, 3) := by decide +kernel
theorem dX7_kinds_12 : decode cX7_kinds 12 = .ok (.aload_n 0, 1) := by decide +kernel
theorem dX7_kinds_13 : decode cX7_kinds 13 = .ok (.iload_n 2, 1) := by decide +kernel
theorem dX7_kinds_14 : decode cX7_kinds 14 = .ok (.iconst 0, 1) := by decide +kernel
theorem dX7_kinds_15 : decode cX7_kinds 15 = .ok (.aload_n 0, 1) := by decide +kernel
theorem dX7_kinds_16 : decode cX7_kinds 16 = .ok (.getfield 9, 3) := by decide +kernel
theorem dX7_kinds_19 : decode cX7_kinds 19 = .ok (.iload_n 1, 1) := by decide +kernel
theorem dX7_kinds_20 : decode cX7_kinds 20 = .ok (.aaload, 1) := by decide +kernel
theorem dX7_kinds_21 : decode cX7_kinds 21 = .ok (.arraylength, 1) := by decide +kernel
theorem dX7_kinds_22 : decode cX7_kinds 22 = .ok (.invokestatic 29, 3) := by decide +kernel
theorem dX7_kinds_25 : decode cX7_kinds 25 = .ok (.ifCond .ne 7, 3) := by decide +kernel
theorem dX7_kinds_28 : decode cX7_kinds 28 = .ok (.iconst 1, 1) := by decide +kernel
theorem dX7_kinds_29 : decode cX7_kinds 29 = .ok (.goto 4, 3) := by decide +kernel
theorem dX7_kinds_32 : decode cX7_kinds 32 = .ok (.iconst 0, 1) := by decide +kernel
theorem dX7_kinds_33 : decode cX7_kinds 33 = .ok (.iconst 2, 1) := by decide +kernel
theorem dX7_kinds_34 : decode cX7_kinds 34 = .ok (.invokevirtual 25, 3) := by decide +kernel
theorem dX7_kinds_37 : decode cX7_kinds 37 = .ok (.ifCond .eq 5, 3) := by decide +kernel
theorem dX7_kinds_40 : decode cX7_kinds 40 = .ok (.iconst 0, 1) := by decide +kernel
theorem dX7_kinds_41 : decode cX7_kinds 41 = .ok (.ireturn, 1) := by decide +kernel
theorem dX7_kinds_42 : decode cX7_kinds 42 = .ok (.aload_n 0, 1) := by decide +kernel
theorem dX7_kinds_43 : decode cX7_kinds 43 = .ok (.getfield 9, 3) := by decide +kernel
theorem dX7_kinds_46 : decode cX7_kinds 46 = .ok (.iload_n 1, 1) := by decide +kernel
theorem dX7_kinds_47 : decode cX7_kinds 47 = .ok (.aaload, 1) := by decide +kernel
theorem dX7_kinds_48 : decode cX7_kinds 48 = .ok (.astore 4, 2) := by decide +kernel
theorem dX7_kinds_50 : decode cX7_kinds 50 = .ok (.iconst 0, 1) := by decide +kernel
theorem dX7_kinds_51 : decode cX7_kinds 51 = .ok (.istore 5, 2) := by decide +kernel
theorem dX7_kinds_53 : decode cX7_kinds 53 = .ok (.iconst 0, 1) := by decide +kernel
theorem dX7_kinds_54 : decode cX7_kinds 54 = .ok (.istore 6, 2) := by decide +kernel
theorem dX7_kinds_56 : decode cX7_kinds 56 = .ok (.iload 6, 2) := by decide +kernel
theorem dX7_kinds_58 : decode cX7_kinds 58 = .ok (.aload 4, 2) := by decide +kernel
theorem dX7_kinds_60 : decode cX7_kinds 60 = .ok (.iload_n 2, 1) := by decide +kernel
theorem dX7_kinds_61 : decode cX7_kinds 61 = .ok (.iload_n 3, 1) := by decide +kernel
theorem dX7_kinds_62 : decode cX7_kinds 62 = .ok (.invokestatic 160, 3) := by decide +kernel
theorem dX7_kinds_65 : decode cX7_kinds 65 = .ok (.if_icmp .ge 61, 3) := by decide +kernel
theorem dX7_kinds_68 : decode cX7_kinds 68 = .ok (.iconst 1, 1) := by decide +kernel
theorem dX7_kinds_69 : decode cX7_kinds 69 = .ok (.istore 7, 2) := by decide +kernel
theorem dX7_kinds_71 : decode cX7_kinds 71 = .ok (.iconst 0, 1) := by decide +kernel
theorem dX7_kinds_72 : decode cX7_kinds 72 = .ok (.istore 8, 2) := by decide +kernel
theorem dX7_kinds_74 : decode cX7_kinds 74 = .ok (.iload 8, 2) := by decide +kernel
theorem dX7_kinds_76 : decode cX7_kinds 76 = .ok (.iload 6, 2) := by decide +kernel
theorem dX7_kinds_78 : decode cX7_kinds 78 = .ok (.if_icmp .ge 32, 3) := by decide +kernel
theorem dX7_kinds_81 : decode cX7_kinds 81 = .ok (.iload 7, 2) := by decide +kernel
theorem dX7_kinds_83 : decode cX7_kinds 83 = .ok (.aload 4, 2) := by decide +kernel
theorem dX7_kinds_85 : decode cX7_kinds 85 = .ok (.iload 8, 2) := by decide +kernel
theorem dX7_kinds_87 : decode cX7_kinds 87 = .ok (.iload 6, 2) := by decide +kernel
theorem dX7_kinds_89 : decode cX7_kinds 89 = .ok (.iload_n 2, 1) := by decide +kernel
theorem dX7_kinds_90 : decode cX7_kinds 90 = .ok (.invokestatic 173, 3) := by decide +kernel
theorem dX7_kinds_93 : decode cX7_kinds 93 = .ok (.ifCond .ne 7, 3) := by decide +kernel
theorem dX7_kinds_96 : decode cX7_kinds 96 = .ok (.iconst 1, 1) := by decide +kernel
theorem dX7_kinds_97 : decode cX7_kinds 97 = .ok (.goto 4, 3) := by decide +kernel
theorem dX7_kinds_100 : decode cX7_kinds 100 = .ok (.iconst 0, 1) := by decide +kernel
theorem dX7_kinds_101 : decode cX7_kinds 101 = .ok (.iand, 1) := by decide +kernel
theorem dX7_kinds_102 : decode cX7_kinds 102 = .ok (.istore 7, 2) := by decide +kernel
theorem dX7_kinds_104 : decode cX7_kinds 104 = .ok (.iinc 8 1, 3) := by decide +kernel
theorem dX7_kinds_107 : decode cX7_kinds 107 = .ok (.goto (-33), 3) := by decide +kernel
theorem dX7_kinds_110 : decode cX7_kinds 110 = .ok (.iload 5, 2) := by decide +kernel
theorem dX7_kinds_112 : decode cX7_kinds 112 = .ok (.iload 7, 2) := by decide +kernel
theorem dX7_kinds_114 : decode cX7_kinds 114 = .ok (.invokestatic 79, 3) := by decide +kernel
theorem dX7_kinds_117 : decode cX7_kinds 117 = .ok (.iadd, 1) := by decide +kernel
theorem dX7_kinds_118 : decode cX7_kinds 118 = .ok (.istore 5, 2) := by decide +kernel
theorem dX7_kinds_120 : decode cX7_kinds 120 = .ok (.iinc 6 1, 3) := by decide +kernel
theorem dX7_kinds_123 : decode cX7_kinds 123 = .ok (.goto (-67), 3) := by decide +kernel
theorem dX7_kinds_126 : decode cX7_kinds 126 = .ok (.iload 5, 2) := by decide +kernel
theorem dX7_kinds_128 : decode cX7_kinds 128 = .ok (.ireturn, 1) := by decide +kernel
theorem dX7_timesOf_0 : decode cX7_timesOf 0 = .ok (.iconst 0, 1) := by decide +kernel
theorem dX7_timesOf_1 : decode cX7_timesOf 1 = .ok (.istore_n 1, 1) := by decide +kernel
theorem dX7_timesOf_2 : decode cX7_timesOf 2 = .ok (.iconst 0, 1) := by decide +kernel
theorem dX7_timesOf_3 : decode cX7_timesOf 3 = .ok (.istore_n 2, 1) := by decide +kernel
theorem dX7_timesOf_4 : decode cX7_timesOf 4 = .ok (.iload_n 2, 1) := by decide +kernel
theorem dX7_timesOf_5 : decode cX7_timesOf 5 = .ok (.aload_n 0, 1) := by decide +kernel
theorem dX7_timesOf_6 : decode cX7_timesOf 6 = .ok (.arraylength, 1) := by decide +kernel
theorem dX7_timesOf_7 : decode cX7_timesOf 7 = .ok (.if_icmp .ge 69, 3) := by decide +kernel
theorem dX7_timesOf_10 : decode cX7_timesOf 10 = .ok (.iconst 1, 1) := by decide +kernel
theorem dX7_timesOf_11 : decode cX7_timesOf 11 = .ok (.istore_n 3, 1) := by decide +kernel
theorem dX7_timesOf_12 : decode cX7_timesOf 12 = .ok (.iload_n 2, 1) := by decide +kernel
theorem dX7_timesOf_13 : decode cX7_timesOf 13 = .ok (.iload_n 3, 1) := by decide +kernel
theorem dX7_timesOf_14 : decode cX7_timesOf 14 = .ok (.iadd, 1) := by decide +kernel
theorem dX7_timesOf_15 : decode cX7_timesOf 15 = .ok (.aload_n 0, 1) := by decide +kernel
theorem dX7_timesOf_16 : decode cX7_timesOf 16 = .ok (.arraylength, 1) := by decide +kernel
theorem dX7_timesOf_17 : decode cX7_timesOf 17 = .ok (.if_icmp .gt 53, 3) := by decide +kernel
theorem dX7_timesOf_20 : decode cX7_timesOf 20 = .ok (.iconst 1, 1) := by decide +kernel
theorem dX7_timesOf_21 : decode cX7_timesOf 21 = .ok (.istore 4, 2) := by decide +kernel
theorem dX7_timesOf_23 : decode cX7_timesOf 23 = .ok (.iload_n 2, 1) := by decide +kernel
theorem dX7_timesOf_24 : decode cX7_timesOf 24 = .ok (.iload 4, 2) := by decide +kernel
theorem dX7_timesOf_26 : decode cX7_timesOf 26 = .ok (.iconst 1, 1) := by decide +kernel
theorem dX7_timesOf_27 : decode cX7_timesOf 27 = .ok (.iadd, 1) := by decide +kernel
theorem dX7_timesOf_28 : decode cX7_timesOf 28 = .ok (.iload_n 3, 1) := by decide +kernel
theorem dX7_timesOf_29 : decode cX7_timesOf 29 = .ok (.imul, 1) := by decide +kernel
theorem dX7_timesOf_30 : decode cX7_timesOf 30 = .ok (.iadd, 1) := by decide +kernel
theorem dX7_timesOf_31 : decode cX7_timesOf 31 = .ok (.aload_n 0, 1) := by decide +kernel
theorem dX7_timesOf_32 : decode cX7_timesOf 32 = .ok (.arraylength, 1) := by decide +kernel
theorem dX7_timesOf_33 : decode cX7_timesOf 33 = .ok (.if_icmp .gt 24, 3) := by decide +kernel
theorem dX7_timesOf_36 : decode cX7_timesOf 36 = .ok (.aload_n 0, 1) := by decide +kernel
theorem dX7_timesOf_37 : decode cX7_timesOf 37 = .ok (.iload_n 2, 1) := by decide +kernel
theorem dX7_timesOf_38 : decode cX7_timesOf 38 = .ok (.iload_n 2, 1) := by decide +kernel
theorem dX7_timesOf_39 : decode cX7_timesOf 39 = .ok (.iload 4, 2) := by decide +kernel
theorem dX7_timesOf_41 : decode cX7_timesOf 41 = .ok (.iload_n 3, 1) := by decide +kernel
theorem dX7_timesOf_42 : decode cX7_timesOf 42 = .ok (.imul, 1) := by decide +kernel
theorem dX7_timesOf_43 : decode cX7_timesOf 43 = .ok (.iadd, 1) := by decide +kernel
theorem dX7_timesOf_44 : decode cX7_timesOf 44 = .ok (.iload_n 3, 1) := by decide +kernel
theorem dX7_timesOf_45 : decode cX7_timesOf 45 = .ok (.invokestatic 173, 3) := by decide +kernel
theorem dX7_timesOf_48 : decode cX7_timesOf 48 = .ok (.ifCond .eq 9, 3) := by decide +kernel
theorem dX7_timesOf_51 : decode cX7_timesOf 51 = .ok (.iinc 4 1, 3) := by decide +kernel
theorem dX7_timesOf_54 : decode cX7_timesOf 54 = .ok (.goto (-31), 3) := by decide +kernel
theorem dX7_timesOf_57 : decode cX7_timesOf 57 = .ok (.iload_n 1, 1) := by decide +kernel
theorem dX7_timesOf_58 : decode cX7_timesOf 58 = .ok (.iload 4, 2) := by decide +kernel
theorem dX7_timesOf_60 : decode cX7_timesOf 60 = .ok (.invokestatic 164, 3) := by decide +kernel
theorem dX7_timesOf_63 : decode cX7_timesOf 63 = .ok (.istore_n 1, 1) := by decide +kernel
theorem dX7_timesOf_64 : decode cX7_timesOf 64 = .ok (.iinc 3 1, 3) := by decide +kernel
theorem dX7_timesOf_67 : decode cX7_timesOf 67 = .ok (.goto (-55), 3) := by decide +kernel
theorem dX7_timesOf_70 : decode cX7_timesOf 70 = .ok (.iinc 2 1, 3) := by decide +kernel
theorem dX7_timesOf_73 : decode cX7_timesOf 73 = .ok (.goto (-69), 3) := by decide +kernel
theorem dX7_timesOf_76 : decode cX7_timesOf 76 = .ok (.iload_n 1, 1) := by decide +kernel
theorem dX7_timesOf_77 : decode cX7_timesOf 77 = .ok (.ireturn, 1) := by decide +kernel
theorem dX7_times_0 : decode cX7_times 0 = .ok (.aload_n 0, 1) := by decide +kernel
theorem dX7_times_1 : decode cX7_times 1 = .ok (.iload_n 1, 1) := by decide +kernel
theorem dX7_times_2 : decode cX7_times 2 = .ok (.invokestatic 33, 3) := by decide +kernel
theorem dX7_times_5 : decode cX7_times 5 = .ok (.iconst 1, 1) := by decide +kernel
theorem dX7_times_6 : decode cX7_times 6 = .ok (.invokevirtual 51, 3) := by decide +kernel
theorem dX7_times_9 : decode cX7_times 9 = .ok (.ifCond .eq 7, 3) := by decide +kernel
theorem dX7_times_12 : decode cX7_times 12 = .ok (.iconst 0, 1) := by decide +kernel
theorem dX7_times_13 : decode cX7_times 13 = .ok (.goto 12, 3) := by decide +kernel
theorem dX7_times_16 : decode cX7_times 16 = .ok (.aload_n 0, 1) := by decide +kernel
theorem dX7_times_17 : decode cX7_times 17 = .ok (.getfield 9, 3) := by decide +kernel
theorem dX7_times_20 : decode cX7_times 20 = .ok (.iload_n 1, 1) := by decide +kernel
theorem dX7_times_21 : decode cX7_times 21 = .ok (.aaload, 1) := by decide +kernel
theorem dX7_times_22 : decode cX7_times 22 = .ok (.invokestatic 177, 3) := by decide +kernel
theorem dX7_times_25 : decode cX7_times 25 = .ok (.ireturn, 1) := by decide +kernel
theorem dX7_overlapsOf_0 : decode cX7_overlapsOf 0 = .ok (.iconst 0, 1) := by decide +kernel
theorem dX7_overlapsOf_1 : decode cX7_overlapsOf 1 = .ok (.istore_n 1, 1) := by decide +kernel
theorem dX7_overlapsOf_2 : decode cX7_overlapsOf 2 = .ok (.iconst 0, 1) := by decide +kernel
theorem dX7_overlapsOf_3 : decode cX7_overlapsOf 3 = .ok (.istore_n 2, 1) := by decide +kernel
theorem dX7_overlapsOf_4 : decode cX7_overlapsOf 4 = .ok (.iload_n 2, 1) := by decide +kernel
theorem dX7_overlapsOf_5 : decode cX7_overlapsOf 5 = .ok (.aload_n 0, 1) := by decide +kernel
theorem dX7_overlapsOf_6 : decode cX7_overlapsOf 6 = .ok (.arraylength, 1) := by decide +kernel
theorem dX7_overlapsOf_7 : decode cX7_overlapsOf 7 = .ok (.if_icmp .ge 44, 3) := by decide +kernel
theorem dX7_overlapsOf_10 : decode cX7_overlapsOf 10 = .ok (.iconst 1, 1) := by decide +kernel
theorem dX7_overlapsOf_11 : decode cX7_overlapsOf 11 = .ok (.istore_n 3, 1) := by decide +kernel
theorem dX7_overlapsOf_12 : decode cX7_overlapsOf 12 = .ok (.iload_n 2, 1) := by decide +kernel
theorem dX7_overlapsOf_13 : decode cX7_overlapsOf 13 = .ok (.iconst 2, 1) := by decide +kernel
theorem dX7_overlapsOf_14 : decode cX7_overlapsOf 14 = .ok (.iload_n 3, 1) := by decide +kernel
theorem dX7_overlapsOf_15 : decode cX7_overlapsOf 15 = .ok (.imul, 1) := by decide +kernel
theorem dX7_overlapsOf_16 : decode cX7_overlapsOf 16 = .ok (.iadd, 1) := by decide +kernel
theorem dX7_overlapsOf_17 : decode cX7_overlapsOf 17 = .ok (.aload_n 0, 1) := by decide +kernel
theorem dX7_overlapsOf_18 : decode cX7_overlapsOf 18 = .ok (.arraylength, 1) := by decide +kernel
theorem dX7_overlapsOf_19 : decode cX7_overlapsOf 19 = .ok (.if_icmp .ge 26, 3) := by decide +kernel
theorem dX7_overlapsOf_22 : decode cX7_overlapsOf 22 = .ok (.iload_n 1, 1) := by decide +kernel
theorem dX7_overlapsOf_23 : decode cX7_overlapsOf 23 = .ok (.aload_n 0, 1) := by decide +kernel
theorem dX7_overlapsOf_24 : decode cX7_overlapsOf 24 = .ok (.iload_n 2, 1) := by decide +kernel
theorem dX7_overlapsOf_25 : decode cX7_overlapsOf 25 = .ok (.iload_n 2, 1) := by decide +kernel
theorem dX7_overlapsOf_26 : decode cX7_overlapsOf 26 = .ok (.iload_n 3, 1) := by decide +kernel
theorem dX7_overlapsOf_27 : decode cX7_overlapsOf 27 = .ok (.iadd, 1) := by decide +kernel
theorem dX7_overlapsOf_28 : decode cX7_overlapsOf 28 = .ok (.iload_n 3, 1) := by decide +kernel
theorem dX7_overlapsOf_29 : decode cX7_overlapsOf 29 = .ok (.iconst 1, 1) := by decide +kernel
theorem dX7_overlapsOf_30 : decode cX7_overlapsOf 30 = .ok (.iadd, 1) := by decide +kernel
theorem dX7_overlapsOf_31 : decode cX7_overlapsOf 31 = .ok (.invokestatic 173, 3) := by decide +kernel
theorem dX7_overlapsOf_34 : decode cX7_overlapsOf 34 = .ok (.invokestatic 79, 3) := by decide +kernel
theorem dX7_overlapsOf_37 : decode cX7_overlapsOf 37 = .ok (.iadd, 1) := by decide +kernel
theorem dX7_overlapsOf_38 : decode cX7_overlapsOf 38 = .ok (.istore_n 1, 1) := by decide +kernel
theorem dX7_overlapsOf_39 : decode cX7_overlapsOf 39 = .ok (.iinc 3 1, 3) := by decide +kernel
theorem dX7_overlapsOf_42 : decode cX7_overlapsOf 42 = .ok (.goto (-30), 3) := by decide +kernel
theorem dX7_overlapsOf_45 : decode cX7_overlapsOf 45 = .ok (.iinc 2 1, 3) := by decide +kernel
theorem dX7_overlapsOf_48 : decode cX7_overlapsOf 48 = .ok (.goto (-44), 3) := by decide +kernel
theorem dX7_overlapsOf_51 : decode cX7_overlapsOf 51 = .ok (.iload_n 1, 1) := by decide +kernel
theorem dX7_overlapsOf_52 : decode cX7_overlapsOf 52 = .ok (.ireturn, 1) := by decide +kernel
theorem dX7_overlaps_0 : decode cX7_overlaps 0 = .ok (.aload_n 0, 1) := by decide +kernel
theorem dX7_overlaps_1 : decode cX7_overlaps 1 = .ok (.iload_n 1, 1) := by decide +kernel
theorem dX7_overlaps_2 : decode cX7_overlaps 2 = .ok (.invokestatic 33, 3) := by decide +kernel
theorem dX7_overlaps_5 : decode cX7_overlaps 5 = .ok (.iconst 1, 1) := by decide +kernel
theorem dX7_overlaps_6 : decode cX7_overlaps 6 = .ok (.invokevirtual 51, 3) := by decide +kernel
theorem dX7_overlaps_9 : decode cX7_overlaps 9 = .ok (.ifCond .eq 7, 3) := by decide +kernel
theorem dX7_overlaps_12 : decode cX7_overlaps 12 = .ok (.iconst 0, 1) := by decide +kernel
theorem dX7_overlaps_13 : decode cX7_overlaps 13 = .ok (.goto 12, 3) := by decide +kernel
theorem dX7_overlaps_16 : decode cX7_overlaps 16 = .ok (.aload_n 0, 1) := by decide +kernel
theorem dX7_overlaps_17 : decode cX7_overlaps 17 = .ok (.getfield 9, 3) := by decide +kernel
theorem dX7_overlaps_20 : decode cX7_overlaps 20 = .ok (.iload_n 1, 1) := by decide +kernel
theorem dX7_overlaps_21 : decode cX7_overlaps 21 = .ok (.aaload, 1) := by decide +kernel
theorem dX7_overlaps_22 : decode cX7_overlaps 22 = .ok (.invokestatic 180, 3) := by decide +kernel
theorem dX7_overlaps_25 : decode cX7_overlaps 25 = .ok (.ireturn, 1) := by decide +kernel
theorem dX7_mirrors_0 : decode cX7_mirrors 0 = .ok (.aload_n 0, 1) := by decide +kernel
theorem dX7_mirrors_1 : decode cX7_mirrors 1 = .ok (.iload_n 1, 1) := by decide +kernel
theorem dX7_mirrors_2 : decode cX7_mirrors 2 = .ok (.invokestatic 33, 3) := by decide +kernel
theorem dX7_mirrors_5 : decode cX7_mirrors 5 = .ok (.iconst 1, 1) := by decide +kernel
theorem dX7_mirrors_6 : decode cX7_mirrors 6 = .ok (.invokevirtual 51, 3) := by decide +kernel
theorem dX7_mirrors_9 : decode cX7_mirrors 9 = .ok (.ifCond .eq 5, 3) := by decide +kernel
theorem dX7_mirrors_12 : decode cX7_mirrors 12 = .ok (.iconst 0, 1) := by decide +kernel
theorem dX7_mirrors_13 : decode cX7_mirrors 13 = .ok (.ireturn, 1) := by decide +kernel
theorem dX7_mirrors_14 : decode cX7_mirrors 14 = .ok (.aload_n 0, 1) := by decide +kernel
theorem dX7_mirrors_15 : decode cX7_mirrors 15 = .ok (.getfield 9, 3) := by decide +kernel
theorem dX7_mirrors_18 : decode cX7_mirrors 18 = .ok (.iload_n 1, 1) := by decide +kernel
theorem dX7_mirrors_19 : decode cX7_mirrors 19 = .ok (.aaload, 1) := by decide +kernel
theorem dX7_mirrors_20 : decode cX7_mirrors 20 = .ok (.astore_n 2, 1) := by decide +kernel
theorem dX7_mirrors_21 : decode cX7_mirrors 21 = .ok (.iconst 0, 1) := by decide +kernel
theorem dX7_mirrors_22 : decode cX7_mirrors 22 = .ok (.istore_n 3, 1) := by decide +kernel
theorem dX7_mirrors_23 : decode cX7_mirrors 23 = .ok (.iconst 1, 1) := by decide +kernel
theorem dX7_mirrors_24 : decode cX7_mirrors 24 = .ok (.istore 4, 2) := by decide +kernel
theorem dX7_mirrors_26 : decode cX7_mirrors 26 = .ok (.iload 4, 2) := by decide +kernel
theorem dX7_mirrors_28 : decode cX7_mirrors 28 = .ok (.aload_n 2, 1) := by decide +kernel
theorem dX7_mirrors_29 : decode cX7_mirrors 29 = .ok (.arraylength, 1) := by decide +kernel
theorem dX7_mirrors_30 : decode cX7_mirrors 30 = .ok (.if_icmp .gt 97, 3) := by decide +kernel
theorem dX7_mirrors_33 : decode cX7_mirrors 33 = .ok (.iconst 0, 1) := by decide +kernel
theorem dX7_mirrors_34 : decode cX7_mirrors 34 = .ok (.istore 5, 2) := by decide +kernel
theorem dX7_mirrors_36 : decode cX7_mirrors 36 = .ok (.iload 5, 2) := by decide +kernel
theorem dX7_mirrors_38 : decode cX7_mirrors 38 = .ok (.iload 4, 2) := by decide +kernel
theorem dX7_mirrors_40 : decode cX7_mirrors 40 = .ok (.iadd, 1) := by decide +kernel
theorem dX7_mirrors_41 : decode cX7_mirrors 41 = .ok (.aload_n 2, 1) := by decide +kernel
theorem dX7_mirrors_42 : decode cX7_mirrors 42 = .ok (.arraylength, 1) := by decide +kernel
theorem dX7_mirrors_43 : decode cX7_mirrors 43 = .ok (.if_icmp .gt 78, 3) := by decide +kernel
theorem dX7_mirrors_46 : decode cX7_mirrors 46 = .ok (.aload_n 2, 1) := by decide +kernel
theorem dX7_mirrors_47 : decode cX7_mirrors 47 = .ok (.iload 5, 2) := by decide +kernel
theorem dX7_mirrors_49 : decode cX7_mirrors 49 = .ok (.iload 5, 2) := by decide +kernel
theorem dX7_mirrors_51 : decode cX7_mirrors 51 = .ok (.iload 4, 2) := by decide +kernel
theorem dX7_mirrors_53 : decode cX7_mirrors 53 = .ok (.iadd, 1) := by decide +kernel
theorem dX7_mirrors_54 : decode cX7_mirrors 54 = .ok (.invokestatic 156, 3) := by decide +kernel
theorem dX7_mirrors_57 : decode cX7_mirrors 57 = .ok (.ifCond .ne 6, 3) := by decide +kernel
theorem dX7_mirrors_60 : decode cX7_mirrors 60 = .ok (.goto 55, 3) := by decide +kernel
theorem dX7_mirrors_63 : decode cX7_mirrors 63 = .ok (.iconst 1, 1) := by decide +kernel
theorem dX7_mirrors_64 : decode cX7_mirrors 64 = .ok (.istore 6, 2) := by decide +kernel
theorem dX7_mirrors_66 : decode cX7_mirrors 66 = .ok (.iconst 0, 1) := by decide +kernel
theorem dX7_mirrors_67 : decode cX7_mirrors 67 = .ok (.istore 7, 2) := by decide +kernel
theorem dX7_mirrors_69 : decode cX7_mirrors 69 = .ok (.iload 7, 2) := by decide +kernel
theorem dX7_mirrors_71 : decode cX7_mirrors 71 = .ok (.iload 5, 2) := by decide +kernel
theorem dX7_mirrors_73 : decode cX7_mirrors 73 = .ok (.if_icmp .ge 34, 3) := by decide +kernel
theorem dX7_mirrors_76 : decode cX7_mirrors 76 = .ok (.iload 6, 2) := by decide +kernel
theorem dX7_mirrors_78 : decode cX7_mirrors 78 = .ok (.ifCond .eq 29, 3) := by decide +kernel
theorem dX7_mirrors_81 : decode cX7_mirrors 81 = .ok (.aload_n 2, 1) := by decide +kernel
theorem dX7_mirrors_82 : decode cX7_mirrors 82 = .ok (.iload 7, 2) := by decide +kernel
theorem dX7_mirrors_84 : decode cX7_mirrors 84 = .ok (.iload 5, 2) := by decide +kernel
theorem dX7_mirrors_86 : decode cX7_mirrors 86 = .ok (.iload 4, 2) := by decide +kernel
theorem dX7_mirrors_88 : decode cX7_mirrors 88 = .ok (.invokestatic 173, 3) := by decide +kernel
theorem dX7_mirrors_91 : decode cX7_mirrors 91 = .ok (.ifCond .ne 7, 3) := by decide +kernel
theorem dX7_mirrors_94 : decode cX7_mirrors 94 = .ok (.iconst 1, 1) := by decide +kernel
theorem dX7_mirrors_95 : decode cX7_mirrors 95 = .ok (.goto 4, 3) := by decide +kernel
theorem dX7_mirrors_98 : decode cX7_mirrors 98 = .ok (.iconst 0, 1) := by decide +kernel
theorem dX7_mirrors_99 : decode cX7_mirrors 99 = .ok (.istore 6, 2) := by decide +kernel
theorem dX7_mirrors_101 : decode cX7_mirrors 101 = .ok (.iinc 7 1, 3) := by decide +kernel
theorem dX7_mirrors_104 : decode cX7_mirrors 104 = .ok (.goto (-35), 3) := by decide +kernel
theorem dX7_mirrors_107 : decode cX7_mirrors 107 = .ok (.iload_n 3, 1) := by decide +kernel
theorem dX7_mirrors_108 : decode cX7_mirrors 108 = .ok (.iload 6, 2) := by decide +kernel
theorem dX7_mirrors_110 : decode cX7_mirrors 110 = .ok (.invokestatic 79, 3) := by decide +kernel
theorem dX7_mirrors_113 : decode cX7_mirrors 113 = .ok (.iadd, 1) := by decide +kernel
theorem dX7_mirrors_114 : decode cX7_mirrors 114 = .ok (.istore_n 3, 1) := by decide +kernel
theorem dX7_mirrors_115 : decode cX7_mirrors 115 = .ok (.iinc 5 1, 3) := by decide +kernel
theorem dX7_mirrors_118 : decode cX7_mirrors 118 = .ok (.goto (-82), 3) := by decide +kernel
theorem dX7_mirrors_121 : decode cX7_mirrors 121 = .ok (.iinc 4 1, 3) := by decide +kernel
theorem dX7_mirrors_124 : decode cX7_mirrors 124 = .ok (.goto (-98), 3) := by decide +kernel
theorem dX7_mirrors_127 : decode cX7_mirrors 127 = .ok (.iload_n 3, 1) := by decide +kernel
theorem dX7_mirrors_128 : decode cX7_mirrors 128 = .ok (.ireturn, 1) := by decide +kernel
theorem dX7_foldsOf_0 : decode cX7_foldsOf 0 = .ok (.iconst 0, 1) := by decide +kernel
theorem dX7_foldsOf_1 : decode cX7_foldsOf 1 = .ok (.istore_n 1, 1) := by decide +kernel
theorem dX7_foldsOf_2 : decode cX7_foldsOf 2 = .ok (.iconst 0, 1) := by decide +kernel
theorem dX7_foldsOf_3 : decode cX7_foldsOf 3 = .ok (.istore_n 2, 1) := by decide +kernel
theorem dX7_foldsOf_4 : decode cX7_foldsOf 4 = .ok (.iload_n 2, 1) := by decide +kernel
theorem dX7_foldsOf_5 : decode cX7_foldsOf 5 = .ok (.aload_n 0, 1) := by decide +kernel
theorem dX7_foldsOf_6 : decode cX7_foldsOf 6 = .ok (.arraylength, 1) := by decide +kernel
theorem dX7_foldsOf_7 : decode cX7_foldsOf 7 = .ok (.if_icmp .ge 39, 3) := by decide +kernel
theorem dX7_foldsOf_10 : decode cX7_foldsOf 10 = .ok (.iload_n 1, 1) := by decide +kernel
theorem dX7_foldsOf_11 : decode cX7_foldsOf 11 = .ok (.aload_n 0, 1) := by decide +kernel
theorem dX7_foldsOf_12 : decode cX7_foldsOf 12 = .ok (.iconst 0, 1) := by decide +kernel
theorem dX7_foldsOf_13 : decode cX7_foldsOf 13 = .ok (.iload_n 2, 1) := by decide +kernel
theorem dX7_foldsOf_14 : decode cX7_foldsOf 14 = .ok (.invokestatic 156, 3) := by decide +kernel
theorem dX7_foldsOf_17 : decode cX7_foldsOf 17 = .ok (.ifCond .eq 17, 3) := by decide +kernel
theorem dX7_foldsOf_20 : decode cX7_foldsOf 20 = .ok (.aload_n 0, 1) := by decide +kernel
theorem dX7_foldsOf_21 : decode cX7_foldsOf 21 = .ok (.iload_n 2, 1) := by decide +kernel
theorem dX7_foldsOf_22 : decode cX7_foldsOf 22 = .ok (.aload_n 0, 1) := by decide +kernel
theorem dX7_foldsOf_23 : decode cX7_foldsOf 23 = .ok (.arraylength, 1) := by decide +kernel
theorem dX7_foldsOf_24 : decode cX7_foldsOf 24 = .ok (.invokestatic 156, 3) := by decide +kernel
theorem dX7_foldsOf_27 : decode cX7_foldsOf 27 = .ok (.ifCond .eq 7, 3) := by decide +kernel
theorem dX7_foldsOf_30 : decode cX7_foldsOf 30 = .ok (.iconst 1, 1) := by decide +kernel
theorem dX7_foldsOf_31 : decode cX7_foldsOf 31 = .ok (.goto 4, 3) := by decide +kernel
theorem dX7_foldsOf_34 : decode cX7_foldsOf 34 = .ok (.iconst 0, 1) := by decide +kernel
theorem dX7_foldsOf_35 : decode cX7_foldsOf 35 = .ok (.invokestatic 79, 3) := by decide +kernel
theorem dX7_foldsOf_38 : decode cX7_foldsOf 38 = .ok (.iadd, 1) := by decide +kernel
theorem dX7_foldsOf_39 : decode cX7_foldsOf 39 = .ok (.istore_n 1, 1) := by decide +kernel
theorem dX7_foldsOf_40 : decode cX7_foldsOf 40 = .ok (.iinc 2 1, 3) := by decide +kernel
theorem dX7_foldsOf_43 : decode cX7_foldsOf 43 = .ok (.goto (-39), 3) := by decide +kernel
theorem dX7_foldsOf_46 : decode cX7_foldsOf 46 = .ok (.iload_n 1, 1) := by decide +kernel
theorem dX7_foldsOf_47 : decode cX7_foldsOf 47 = .ok (.ireturn, 1) := by decide +kernel
theorem dX7_folds_0 : decode cX7_folds 0 = .ok (.aload_n 0, 1) := by decide +kernel
theorem dX7_folds_1 : decode cX7_folds 1 = .ok (.iload_n 1, 1) := by decide +kernel
theorem dX7_folds_2 : decode cX7_folds 2 = .ok (.invokestatic 33, 3) := by decide +kernel
theorem dX7_folds_5 : decode cX7_folds 5 = .ok (.iconst 1, 1) := by decide +kernel
theorem dX7_folds_6 : decode cX7_folds 6 = .ok (.invokevirtual 51, 3) := by decide +kernel
theorem dX7_folds_9 : decode cX7_folds 9 = .ok (.ifCond .eq 7, 3) := by decide +kernel
theorem dX7_folds_12 : decode cX7_folds 12 = .ok (.iconst 0, 1) := by decide +kernel
theorem dX7_folds_13 : decode cX7_folds 13 = .ok (.goto 12, 3) := by decide +kernel
theorem dX7_folds_16 : decode cX7_folds 16 = .ok (.aload_n 0, 1) := by decide +kernel
theorem dX7_folds_17 : decode cX7_folds 17 = .ok (.getfield 9, 3) := by decide +kernel
theorem dX7_folds_20 : decode cX7_folds 20 = .ok (.iload_n 1, 1) := by decide +kernel
theorem dX7_folds_21 : decode cX7_folds 21 = .ok (.aaload, 1) := by decide +kernel
theorem dX7_folds_22 : decode cX7_folds 22 = .ok (.invokestatic 183, 3) := by decide +kernel
theorem dX7_folds_25 : decode cX7_folds 25 = .ok (.ireturn, 1) := by decide +kernel
theorem dX7_leastOf_0 : decode cX7_leastOf 0 = .ok (.iconst 0, 1) := by decide +kernel
theorem dX7_leastOf_1 : decode cX7_leastOf 1 = .ok (.istore_n 1, 1) := by decide +kernel
theorem dX7_leastOf_2 : decode cX7_leastOf 2 = .ok (.iconst 1, 1) := by decide +kernel
theorem dX7_leastOf_3 : decode cX7_leastOf 3 = .ok (.istore_n 2, 1) := by decide +kernel
theorem dX7_leastOf_4 : decode cX7_leastOf 4 = .ok (.iload_n 2, 1) := by decide +kernel
theorem dX7_leastOf_5 : decode cX7_leastOf 5 = .ok (.aload_n 0, 1) := by decide +kernel
theorem dX7_leastOf_6 : decode cX7_leastOf 6 = .ok (.arraylength, 1) := by decide +kernel
theorem dX7_leastOf_7 : decode cX7_leastOf 7 = .ok (.if_icmp .ge 61, 3) := by decide +kernel
theorem dX7_leastOf_10 : decode cX7_leastOf 10 = .ok (.iconst 0, 1) := by decide +kernel
theorem dX7_leastOf_11 : decode cX7_leastOf 11 = .ok (.istore_n 3, 1) := by decide +kernel
theorem dX7_leastOf_12 : decode cX7_leastOf 12 = .ok (.iload_n 3, 1) := by decide +kernel
theorem dX7_leastOf_13 : decode cX7_leastOf 13 = .ok (.aload_n 0, 1) := by decide +kernel
theorem dX7_leastOf_14 : decode cX7_leastOf 14 = .ok (.arraylength, 1) := by decide +kernel
theorem dX7_leastOf_15 : decode cX7_leastOf 15 = .ok (.if_icmp .ge 28, 3) := by decide +kernel
theorem dX7_leastOf_18 : decode cX7_leastOf 18 = .ok (.aload_n 0, 1) := by decide +kernel
theorem dX7_leastOf_19 : decode cX7_leastOf 19 = .ok (.iload_n 1, 1) := by decide +kernel
theorem dX7_leastOf_20 : decode cX7_leastOf 20 = .ok (.iload_n 3, 1) := by decide +kernel
theorem dX7_leastOf_21 : decode cX7_leastOf 21 = .ok (.iadd, 1) := by decide +kernel
theorem dX7_leastOf_22 : decode cX7_leastOf 22 = .ok (.aload_n 0, 1) := by decide +kernel
theorem dX7_leastOf_23 : decode cX7_leastOf 23 = .ok (.arraylength, 1) := by decide +kernel
theorem dX7_leastOf_24 : decode cX7_leastOf 24 = .ok (.irem, 1) := by decide +kernel
theorem dX7_leastOf_25 : decode cX7_leastOf 25 = .ok (.iaload, 1) := by decide +kernel
theorem dX7_leastOf_26 : decode cX7_leastOf 26 = .ok (.aload_n 0, 1) := by decide +kernel
theorem dX7_leastOf_27 : decode cX7_leastOf 27 = .ok (.iload_n 2, 1) := by decide +kernel
theorem dX7_leastOf_28 : decode cX7_leastOf 28 = .ok (.iload_n 3, 1) := by decide +kernel
theorem dX7_leastOf_29 : decode cX7_leastOf 29 = .ok (.iadd, 1) := by decide +kernel
theorem dX7_leastOf_30 : decode cX7_leastOf 30 = .ok (.aload_n 0, 1) := by decide +kernel
theorem dX7_leastOf_31 : decode cX7_leastOf 31 = .ok (.arraylength, 1) := by decide +kernel
theorem dX7_leastOf_32 : decode cX7_leastOf 32 = .ok (.irem, 1) := by decide +kernel
theorem dX7_leastOf_33 : decode cX7_leastOf 33 = .ok (.iaload, 1) := by decide +kernel
theorem dX7_leastOf_34 : decode cX7_leastOf 34 = .ok (.if_icmp .ne 9, 3) := by decide +kernel
theorem dX7_leastOf_37 : decode cX7_leastOf 37 = .ok (.iinc 3 1, 3) := by decide +kernel
theorem dX7_leastOf_40 : decode cX7_leastOf 40 = .ok (.goto (-28), 3) := by decide +kernel
theorem dX7_leastOf_43 : decode cX7_leastOf 43 = .ok (.iload_n 3, 1) := by decide +kernel
theorem dX7_leastOf_44 : decode cX7_leastOf 44 = .ok (.aload_n 0, 1) := by decide +kernel
theorem dX7_leastOf_45 : decode cX7_leastOf 45 = .ok (.arraylength, 1) := by decide +kernel
theorem dX7_leastOf_46 : decode cX7_leastOf 46 = .ok (.if_icmp .ge 16, 3) := by decide +kernel
theorem dX7_leastOf_49 : decode cX7_leastOf 49 = .ok (.aload_n 0, 1) := by decide +kernel
theorem dX7_leastOf_50 : decode cX7_leastOf 50 = .ok (.iload_n 2, 1) := by decide +kernel
theorem dX7_leastOf_51 : decode cX7_leastOf 51 = .ok (.iload_n 3, 1) := by decide +kernel
theorem dX7_leastOf_52 : decode cX7_leastOf 52 = .ok (.iadd, 1) := by decide +kernel
theorem dX7_leastOf_53 : decode cX7_leastOf 53 = .ok (.aload_n 0, 1) := by decide +kernel
theorem dX7_leastOf_54 : decode cX7_leastOf 54 = .ok (.arraylength, 1) := by decide +kernel
theorem dX7_leastOf_55 : decode cX7_leastOf 55 = .ok (.irem, 1) := by decide +kernel
theorem dX7_leastOf_56 : decode cX7_leastOf 56 = .ok (.iaload, 1) := by decide +kernel
theorem dX7_leastOf_57 : decode cX7_leastOf 57 = .ok (.ifCond .ne 5, 3) := by decide +kernel
theorem dX7_leastOf_60 : decode cX7_leastOf 60 = .ok (.iload_n 2, 1) := by decide +kernel
theorem dX7_leastOf_61 : decode cX7_leastOf 61 = .ok (.istore_n 1, 1) := by decide +kernel
theorem dX7_leastOf_62 : decode cX7_leastOf 62 = .ok (.iinc 2 1, 3) := by decide +kernel
theorem dX7_leastOf_65 : decode cX7_leastOf 65 = .ok (.goto (-61), 3) := by decide +kernel
theorem dX7_leastOf_68 : decode cX7_leastOf 68 = .ok (.iload_n 1, 1) := by decide +kernel
theorem dX7_leastOf_69 : decode cX7_leastOf 69 = .ok (.ireturn, 1) := by decide +kernel
theorem dX7_least_0 : decode cX7_least 0 = .ok (.aload_n 0, 1) := by decide +kernel
theorem dX7_least_1 : decode cX7_least 1 = .ok (.iload_n 1, 1) := by decide +kernel
theorem dX7_least_2 : decode cX7_least 2 = .ok (.invokestatic 33, 3) := by decide +kernel
theorem dX7_least_5 : decode cX7_least 5 = .ok (.iconst 1, 1) := by decide +kernel
theorem dX7_least_6 : decode cX7_least 6 = .ok (.invokevirtual 51, 3) := by decide +kernel
theorem dX7_least_9 : decode cX7_least 9 = .ok (.ifCond .eq 7, 3) := by decide +kernel
theorem dX7_least_12 : decode cX7_least 12 = .ok (.iconst 0, 1) := by decide +kernel
theorem dX7_least_13 : decode cX7_least 13 = .ok (.goto 12, 3) := by decide +kernel
theorem dX7_least_16 : decode cX7_least 16 = .ok (.aload_n 0, 1) := by decide +kernel
theorem dX7_least_17 : decode cX7_least 17 = .ok (.getfield 9, 3) := by decide +kernel
theorem dX7_least_20 : decode cX7_least 20 = .ok (.iload_n 1, 1) := by decide +kernel
theorem dX7_least_21 : decode cX7_least 21 = .ok (.aaload, 1) := by decide +kernel
theorem dX7_least_22 : decode cX7_least 22 = .ok (.invokestatic 186, 3) := by decide +kernel
theorem dX7_least_25 : decode cX7_least 25 = .ok (.ireturn, 1) := by decide +kernel
theorem dX7_isApart_0 : decode cX7_isApart 0 = .ok (.aload_n 0, 1) := by decide +kernel
theorem dX7_isApart_1 : decode cX7_isApart 1 = .ok (.iload_n 1, 1) := by decide +kernel
theorem dX7_isApart_2 : decode cX7_isApart 2 = .ok (.iload_n 2, 1) := by decide +kernel
theorem dX7_isApart_3 : decode cX7_isApart 3 = .ok (.invokestatic 104, 3) := by decide +kernel
theorem dX7_isApart_6 : decode cX7_isApart 6 = .ok (.iconst 1, 1) := by decide +kernel
theorem dX7_isApart_7 : decode cX7_isApart 7 = .ok (.invokevirtual 51, 3) := by decide +kernel
theorem dX7_isApart_10 : decode cX7_isApart 10 = .ok (.ifCond .ne 15, 3) := by decide +kernel
theorem dX7_isApart_13 : decode cX7_isApart 13 = .ok (.iload_n 1, 1) := by decide +kernel
theorem dX7_isApart_14 : decode cX7_isApart 14 = .ok (.iload_n 2, 1) := by decide +kernel
theorem dX7_isApart_15 : decode cX7_isApart 15 = .ok (.invokestatic 107, 3) := by decide +kernel
theorem dX7_isApart_18 : decode cX7_isApart 18 = .ok (.ifCond .eq 7, 3) := by decide +kernel
theorem dX7_isApart_21 : decode cX7_isApart 21 = .ok (.iconst 1, 1) := by decide +kernel
theorem dX7_isApart_22 : decode cX7_isApart 22 = .ok (.goto 4, 3) := by decide +kernel
theorem dX7_isApart_25 : decode cX7_isApart 25 = .ok (.iconst 0, 1) := by decide +kernel
theorem dX7_isApart_26 : decode cX7_isApart 26 = .ok (.ireturn, 1) := by decide +kernel
theorem dX7_turns_0 : decode cX7_turns 0 = .ok (.aload_n 0, 1) := by decide +kernel
theorem dX7_turns_1 : decode cX7_turns 1 = .ok (.iload_n 1, 1) := by decide +kernel
theorem dX7_turns_2 : decode cX7_turns 2 = .ok (.invokestatic 113, 3) := by decide +kernel
theorem dX7_turns_5 : decode cX7_turns 5 = .ok (.iconst 1, 1) := by decide +kernel
theorem dX7_turns_6 : decode cX7_turns 6 = .ok (.invokevirtual 51, 3) := by decide +kernel
theorem dX7_turns_9 : decode cX7_turns 9 = .ok (.ifCond .eq 6, 3) := by decide +kernel
theorem dX7_turns_12 : decode cX7_turns 12 = .ok (.ldc 150, 2) := by decide +kernel
theorem dX7_turns_14 : decode cX7_turns 14 = .ok (.areturn, 1) := by decide +kernel
theorem dX7_turns_15 : decode cX7_turns 15 = .ok (.new 139, 3) := by decide +kernel
theorem dX7_turns_18 : decode cX7_turns 18 = .ok (.dup, 1) := by decide +kernel
theorem dX7_turns_19 : decode cX7_turns 19 = .ok (.invokespecial 141, 3) := by decide +kernel
theorem dX7_turns_22 : decode cX7_turns 22 = .ok (.astore_n 2, 1) := by decide +kernel
theorem dX7_turns_23 : decode cX7_turns 23 = .ok (.iconst 0, 1) := by decide +kernel
theorem dX7_turns_24 : decode cX7_turns 24 = .ok (.istore_n 3, 1) := by decide +kernel
theorem dX7_turns_25 : decode cX7_turns 25 = .ok (.iload_n 3, 1) := by decide +kernel
theorem dX7_turns_26 : decode cX7_turns 26 = .ok (.aload_n 0, 1) := by decide +kernel
theorem dX7_turns_27 : decode cX7_turns 27 = .ok (.getfield 18, 3) := by decide +kernel
theorem dX7_turns_30 : decode cX7_turns 30 = .ok (.iload_n 1, 1) := by decide +kernel
theorem dX7_turns_31 : decode cX7_turns 31 = .ok (.iaload, 1) := by decide +kernel
theorem dX7_turns_32 : decode cX7_turns 32 = .ok (.if_icmp .ge 22, 3) := by decide +kernel
theorem dX7_turns_35 : decode cX7_turns 35 = .ok (.aload_n 2, 1) := by decide +kernel
theorem dX7_turns_36 : decode cX7_turns 36 = .ok (.aload_n 0, 1) := by decide +kernel
theorem dX7_turns_37 : decode cX7_turns 37 = .ok (.getfield 15, 3) := by decide +kernel
theorem dX7_turns_40 : decode cX7_turns 40 = .ok (.iload_n 1, 1) := by decide +kernel
theorem dX7_turns_41 : decode cX7_turns 41 = .ok (.aaload, 1) := by decide +kernel
theorem dX7_turns_42 : decode cX7_turns 42 = .ok (.iload_n 3, 1) := by decide +kernel
theorem dX7_turns_43 : decode cX7_turns 43 = .ok (.iaload, 1) := by decide +kernel
theorem dX7_turns_44 : decode cX7_turns 44 = .ok (.invokevirtual 189, 3) := by decide +kernel
theorem dX7_turns_47 : decode cX7_turns 47 = .ok (.pop, 1) := by decide +kernel
theorem dX7_turns_48 : decode cX7_turns 48 = .ok (.iinc 3 1, 3) := by decide +kernel
theorem dX7_turns_51 : decode cX7_turns 51 = .ok (.goto (-26), 3) := by decide +kernel
theorem dX7_turns_54 : decode cX7_turns 54 = .ok (.aload_n 2, 1) := by decide +kernel
theorem dX7_turns_55 : decode cX7_turns 55 = .ok (.invokevirtual 146, 3) := by decide +kernel
theorem dX7_turns_58 : decode cX7_turns 58 = .ok (.areturn, 1) := by decide +kernel
theorem dX7_grown_0 : decode cX7_grown 0 = .ok (.aload_n 0, 1) := by decide +kernel
theorem dX7_grown_1 : decode cX7_grown 1 = .ok (.iload_n 1, 1) := by decide +kernel
theorem dX7_grown_2 : decode cX7_grown 2 = .ok (.invokestatic 113, 3) := by decide +kernel
theorem dX7_grown_5 : decode cX7_grown 5 = .ok (.iconst 1, 1) := by decide +kernel
theorem dX7_grown_6 : decode cX7_grown 6 = .ok (.invokevirtual 51, 3) := by decide +kernel
theorem dX7_grown_9 : decode cX7_grown 9 = .ok (.ifCond .eq 8, 3) := by decide +kernel
theorem dX7_grown_12 : decode cX7_grown 12 = .ok (.ldc 150, 2) := by decide +kernel
theorem dX7_grown_14 : decode cX7_grown 14 = .ok (.goto 12, 3) := by decide +kernel
theorem dX7_grown_17 : decode cX7_grown 17 = .ok (.aload_n 0, 1) := by decide +kernel
theorem dX7_grown_18 : decode cX7_grown 18 = .ok (.iload_n 1, 1) := by decide +kernel
theorem dX7_grown_19 : decode cX7_grown 19 = .ok (.iload_n 2, 1) := by decide +kernel
theorem dX7_grown_20 : decode cX7_grown 20 = .ok (.invokevirtual 192, 3) := by decide +kernel
theorem dX7_grown_23 : decode cX7_grown 23 = .ok (.invokestatic 152, 3) := by decide +kernel
theorem dX7_grown_26 : decode cX7_grown 26 = .ok (.areturn, 1) := by decide +kernel
theorem dX7_size_0 : decode cX7_size 0 = .ok (.aload_n 0, 1) := by decide +kernel
theorem dX7_size_1 : decode cX7_size 1 = .ok (.iload_n 1, 1) := by decide +kernel
theorem dX7_size_2 : decode cX7_size 2 = .ok (.invokestatic 113, 3) := by decide +kernel
theorem dX7_size_5 : decode cX7_size 5 = .ok (.iconst 1, 1) := by decide +kernel
theorem dX7_size_6 : decode cX7_size 6 = .ok (.invokevirtual 51, 3) := by decide +kernel
theorem dX7_size_9 : decode cX7_size 9 = .ok (.ifCond .eq 7, 3) := by decide +kernel
theorem dX7_size_12 : decode cX7_size 12 = .ok (.iconst 0, 1) := by decide +kernel
theorem dX7_size_13 : decode cX7_size 13 = .ok (.goto 10, 3) := by decide +kernel
theorem dX7_size_16 : decode cX7_size 16 = .ok (.aload_n 0, 1) := by decide +kernel
theorem dX7_size_17 : decode cX7_size 17 = .ok (.iload_n 1, 1) := by decide +kernel
theorem dX7_size_18 : decode cX7_size 18 = .ok (.iload_n 2, 1) := by decide +kernel
theorem dX7_size_19 : decode cX7_size 19 = .ok (.invokevirtual 192, 3) := by decide +kernel
theorem dX7_size_22 : decode cX7_size 22 = .ok (.arraylength, 1) := by decide +kernel
theorem dX7_size_23 : decode cX7_size 23 = .ok (.ireturn, 1) := by decide +kernel
theorem dX7_ups_0 : decode cX7_ups 0 = .ok (.aload_n 0, 1) := by decide +kernel
theorem dX7_ups_1 : decode cX7_ups 1 = .ok (.iload_n 1, 1) := by decide +kernel
theorem dX7_ups_2 : decode cX7_ups 2 = .ok (.invokestatic 113, 3) := by decide +kernel
theorem dX7_ups_5 : decode cX7_ups 5 = .ok (.iconst 1, 1) := by decide +kernel
theorem dX7_ups_6 : decode cX7_ups 6 = .ok (.invokevirtual 51, 3) := by decide +kernel
theorem dX7_ups_9 : decode cX7_ups 9 = .ok (.ifCond .eq 7, 3) := by decide +kernel
theorem dX7_ups_12 : decode cX7_ups 12 = .ok (.iconst 0, 1) := by decide +kernel
theorem dX7_ups_13 : decode cX7_ups 13 = .ok (.goto 12, 3) := by decide +kernel
theorem dX7_ups_16 : decode cX7_ups 16 = .ok (.aload_n 0, 1) := by decide +kernel
theorem dX7_ups_17 : decode cX7_ups 17 = .ok (.iload_n 1, 1) := by decide +kernel
theorem dX7_ups_18 : decode cX7_ups 18 = .ok (.iload_n 2, 1) := by decide +kernel
theorem dX7_ups_19 : decode cX7_ups 19 = .ok (.invokevirtual 192, 3) := by decide +kernel
theorem dX7_ups_22 : decode cX7_ups 22 = .ok (.invokestatic 41, 3) := by decide +kernel
theorem dX7_ups_25 : decode cX7_ups 25 = .ok (.ireturn, 1) := by decide +kernel
theorem dX7_crossOf_0 : decode cX7_crossOf 0 = .ok (.aload_n 0, 1) := by decide +kernel
theorem dX7_crossOf_1 : decode cX7_crossOf 1 = .ok (.arraylength, 1) := by decide +kernel
theorem dX7_crossOf_2 : decode cX7_crossOf 2 = .ok (.aload_n 1, 1) := by decide +kernel
theorem dX7_crossOf_3 : decode cX7_crossOf 3 = .ok (.invokestatic 41, 3) := by decide +kernel
theorem dX7_crossOf_6 : decode cX7_crossOf 6 = .ok (.imul, 1) := by decide +kernel
theorem dX7_crossOf_7 : decode cX7_crossOf 7 = .ok (.aload_n 1, 1) := by decide +kernel
theorem dX7_crossOf_8 : decode cX7_crossOf 8 = .ok (.arraylength, 1) := by decide +kernel
theorem dX7_crossOf_9 : decode cX7_crossOf 9 = .ok (.aload_n 0, 1) := by decide +kernel
theorem dX7_crossOf_10 : decode cX7_crossOf 10 = .ok (.invokestatic 41, 3) := by decide +kernel
theorem dX7_crossOf_13 : decode cX7_crossOf 13 = .ok (.imul, 1) := by decide +kernel
theorem dX7_crossOf_14 : decode cX7_crossOf 14 = .ok (.isub, 1) := by decide +kernel
theorem dX7_crossOf_15 : decode cX7_crossOf 15 = .ok (.ireturn, 1) := by decide +kernel
theorem dX7_cross_0 : decode cX7_cross 0 = .ok (.aload_n 0, 1) := by decide +kernel
theorem dX7_cross_1 : decode cX7_cross 1 = .ok (.iload_n 1, 1) := by decide +kernel
theorem dX7_cross_2 : decode cX7_cross 2 = .ok (.invokestatic 113, 3) := by decide +kernel
theorem dX7_cross_5 : decode cX7_cross 5 = .ok (.iconst 1, 1) := by decide +kernel
theorem dX7_cross_6 : decode cX7_cross 6 = .ok (.invokevirtual 51, 3) := by decide +kernel
theorem dX7_cross_9 : decode cX7_cross 9 = .ok (.ifCond .eq 7, 3) := by decide +kernel
theorem dX7_cross_12 : decode cX7_cross 12 = .ok (.iconst 0, 1) := by decide +kernel
theorem dX7_cross_13 : decode cX7_cross 13 = .ok (.goto 18, 3) := by decide +kernel
theorem dX7_cross_16 : decode cX7_cross 16 = .ok (.aload_n 0, 1) := by decide +kernel
theorem dX7_cross_17 : decode cX7_cross 17 = .ok (.iload_n 1, 1) := by decide +kernel
theorem dX7_cross_18 : decode cX7_cross 18 = .ok (.iconst 0, 1) := by decide +kernel
theorem dX7_cross_19 : decode cX7_cross 19 = .ok (.invokevirtual 192, 3) := by decide +kernel
theorem dX7_cross_22 : decode cX7_cross 22 = .ok (.aload_n 0, 1) := by decide +kernel
theorem dX7_cross_23 : decode cX7_cross 23 = .ok (.iload_n 1, 1) := by decide +kernel
theorem dX7_cross_24 : decode cX7_cross 24 = .ok (.iconst 1, 1) := by decide +kernel
theorem dX7_cross_25 : decode cX7_cross 25 = .ok (.invokevirtual 192, 3) := by decide +kernel
theorem dX7_cross_28 : decode cX7_cross 28 = .ok (.invokestatic 196, 3) := by decide +kernel
theorem dX7_cross_31 : decode cX7_cross 31 = .ok (.ireturn, 1) := by decide +kernel
theorem dX7_alikeOf_0 : decode cX7_alikeOf 0 = .ok (.aload_n 0, 1) := by decide +kernel
theorem dX7_alikeOf_1 : decode cX7_alikeOf 1 = .ok (.aload_n 0, 1) := by decide +kernel
theorem dX7_alikeOf_2 : decode cX7_alikeOf 2 = .ok (.arraylength, 1) := by decide +kernel
theorem dX7_alikeOf_3 : decode cX7_alikeOf 3 = .ok (.aload_n 0, 1) := by decide +kernel
theorem dX7_alikeOf_4 : decode cX7_alikeOf 4 = .ok (.arraylength, 1) := by decide +kernel
theorem dX7_alikeOf_5 : decode cX7_alikeOf 5 = .ok (.aload_n 1, 1) := by decide +kernel
theorem dX7_alikeOf_6 : decode cX7_alikeOf 6 = .ok (.invokestatic 67, 3) := by decide +kernel
theorem dX7_alikeOf_9 : decode cX7_alikeOf 9 = .ok (.astore_n 2, 1) := by decide +kernel
theorem dX7_alikeOf_10 : decode cX7_alikeOf 10 = .ok (.aload_n 1, 1) := by decide +kernel
theorem dX7_alikeOf_11 : decode cX7_alikeOf 11 = .ok (.aload_n 1, 1) := by decide +kernel
theorem dX7_alikeOf_12 : decode cX7_alikeOf 12 = .ok (.arraylength, 1) := by decide +kernel
theorem dX7_alikeOf_13 : decode cX7_alikeOf 13 = .ok (.aload_n 1, 1) := by decide +kernel
theorem dX7_alikeOf_14 : decode cX7_alikeOf 14 = .ok (.arraylength, 1) := by decide +kernel
theorem dX7_alikeOf_15 : decode cX7_alikeOf 15 = .ok (.aload_n 0, 1) := by decide +kernel
theorem dX7_alikeOf_16 : decode cX7_alikeOf 16 = .ok (.invokestatic 67, 3) := by decide +kernel
theorem dX7_alikeOf_19 : decode cX7_alikeOf 19 = .ok (.astore_n 3, 1) := by decide +kernel
theorem dX7_alikeOf_20 : decode cX7_alikeOf 20 = .ok (.iconst 0, 1) := by decide +kernel
theorem dX7_alikeOf_21 : decode cX7_alikeOf 21 = .ok (.istore 4, 2) := by decide +kernel
theorem dX7_alikeOf_23 : decode cX7_alikeOf 23 = .ok (.aload_n 2, 1) := by decide +kernel
theorem dX7_alikeOf_24 : decode cX7_alikeOf 24 = .ok (.iload 4, 2) := by decide +kernel
theorem dX7_alikeOf_26 : decode cX7_alikeOf 26 = .ok (.iaload, 1) := by decide +kernel
theorem dX7_alikeOf_27 : decode cX7_alikeOf 27 = .ok (.aload_n 3, 1) := by decide +kernel
theorem dX7_alikeOf_28 : decode cX7_alikeOf 28 = .ok (.iload 4, 2) := by decide +kernel
theorem dX7_alikeOf_30 : decode cX7_alikeOf 30 = .ok (.iaload, 1) := by decide +kernel
theorem dX7_alikeOf_31 : decode cX7_alikeOf 31 = .ok (.if_icmp .ne 9, 3) := by decide +kernel
theorem dX7_alikeOf_34 : decode cX7_alikeOf 34 = .ok (.iinc 4 1, 3) := by decide +kernel
theorem dX7_alikeOf_37 : decode cX7_alikeOf 37 = .ok (.goto (-14), 3) := by decide +kernel
theorem dX7_alikeOf_40 : decode cX7_alikeOf 40 = .ok (.iload 4, 2) := by decide +kernel
theorem dX7_alikeOf_42 : decode cX7_alikeOf 42 = .ok (.ireturn, 1) := by decide +kernel
theorem dX7_alike_0 : decode cX7_alike 0 = .ok (.aload_n 0, 1) := by decide +kernel
theorem dX7_alike_1 : decode cX7_alike 1 = .ok (.iload_n 1, 1) := by decide +kernel
theorem dX7_alike_2 : decode cX7_alike 2 = .ok (.invokestatic 113, 3) := by decide +kernel
theorem dX7_alike_5 : decode cX7_alike 5 = .ok (.iconst 1, 1) := by decide +kernel
theorem dX7_alike_6 : decode cX7_alike 6 = .ok (.invokevirtual 51, 3) := by decide +kernel
theorem dX7_alike_9 : decode cX7_alike 9 = .ok (.ifCond .eq 7, 3) := by decide +kernel
theorem dX7_alike_12 : decode cX7_alike 12 = .ok (.iconst 0, 1) := by decide +kernel
theorem dX7_alike_13 : decode cX7_alike 13 = .ok (.goto 18, 3) := by decide +kernel
theorem dX7_alike_16 : decode cX7_alike 16 = .ok (.aload_n 0, 1) := by decide +kernel
theorem dX7_alike_17 : decode cX7_alike 17 = .ok (.iload_n 1, 1) := by decide +kernel
theorem dX7_alike_18 : decode cX7_alike 18 = .ok (.iconst 0, 1) := by decide +kernel
theorem dX7_alike_19 : decode cX7_alike 19 = .ok (.invokevirtual 192, 3) := by decide +kernel
theorem dX7_alike_22 : decode cX7_alike 22 = .ok (.aload_n 0, 1) := by decide +kernel
theorem dX7_alike_23 : decode cX7_alike 23 = .ok (.iload_n 1, 1) := by decide +kernel
theorem dX7_alike_24 : decode cX7_alike 24 = .ok (.iconst 1, 1) := by decide +kernel
theorem dX7_alike_25 : decode cX7_alike 25 = .ok (.invokevirtual 192, 3) := by decide +kernel
theorem dX7_alike_28 : decode cX7_alike 28 = .ok (.invokestatic 200, 3) := by decide +kernel
theorem dX7_alike_31 : decode cX7_alike 31 = .ok (.ireturn, 1) := by decide +kernel
theorem dX7_told_0 : decode cX7_told 0 = .ok (.iload_n 1, 1) := by decide +kernel
theorem dX7_told_1 : decode cX7_told 1 = .ok (.ifCond .ne 10, 3) := by decide +kernel
theorem dX7_told_4 : decode cX7_told 4 = .ok (.aload_n 0, 1) := by decide +kernel
theorem dX7_told_5 : decode cX7_told 5 = .ok (.getfield 45, 3) := by decide +kernel
theorem dX7_told_8 : decode cX7_told 8 = .ok (.goto 31, 3) := by decide +kernel
theorem dX7_told_11 : decode cX7_told 11 = .ok (.iload_n 1, 1) := by decide +kernel
theorem dX7_told_12 : decode cX7_told 12 = .ok (.iconst 1, 1) := by decide +kernel
theorem dX7_told_13 : decode cX7_told 13 = .ok (.if_icmp .ne 10, 3) := by decide +kernel
theorem dX7_told_16 : decode cX7_told 16 = .ok (.aload_n 0, 1) := by decide +kernel
theorem dX7_told_17 : decode cX7_told 17 = .ok (.getfield 136, 3) := by decide +kernel
theorem dX7_told_20 : decode cX7_told 20 = .ok (.goto 19, 3) := by decide +kernel
theorem dX7_told_23 : decode cX7_told 23 = .ok (.iload_n 1, 1) := by decide +kernel
theorem dX7_told_24 : decode cX7_told 24 = .ok (.iconst 2, 1) := by decide +kernel
theorem dX7_told_25 : decode cX7_told 25 = .ok (.if_icmp .ne 10, 3) := by decide +kernel
theorem dX7_told_28 : decode cX7_told 28 = .ok (.aload_n 0, 1) := by decide +kernel
theorem dX7_told_29 : decode cX7_told 29 = .ok (.getfield 48, 3) := by decide +kernel
theorem dX7_told_32 : decode cX7_told 32 = .ok (.goto 7, 3) := by decide +kernel
theorem dX7_told_35 : decode cX7_told 35 = .ok (.aload_n 0, 1) := by decide +kernel
theorem dX7_told_36 : decode cX7_told 36 = .ok (.getfield 203, 3) := by decide +kernel
theorem dX7_told_39 : decode cX7_told 39 = .ok (.ireturn, 1) := by decide +kernel
theorem dX7_house_0 : decode cX7_house 0 = .ok (.aload_n 0, 1) := by decide +kernel
theorem dX7_house_1 : decode cX7_house 1 = .ok (.iload_n 1, 1) := by decide +kernel
theorem dX7_house_2 : decode cX7_house 2 = .ok (.iconst 0, 1) := by decide +kernel
theorem dX7_house_3 : decode cX7_house 3 = .ok (.iconst 3, 1) := by decide +kernel
theorem dX7_house_4 : decode cX7_house 4 = .ok (.invokestatic 29, 3) := by decide +kernel
theorem dX7_house_7 : decode cX7_house 7 = .ok (.ifCond .ne 7, 3) := by decide +kernel
theorem dX7_house_10 : decode cX7_house 10 = .ok (.iconst 1, 1) := by decide +kernel
theorem dX7_house_11 : decode cX7_house 11 = .ok (.goto 4, 3) := by decide +kernel
theorem dX7_house_14 : decode cX7_house 14 = .ok (.iconst 0, 1) := by decide +kernel
theorem dX7_house_15 : decode cX7_house 15 = .ok (.iconst 1, 1) := by decide +kernel
theorem dX7_house_16 : decode cX7_house 16 = .ok (.invokevirtual 51, 3) := by decide +kernel
theorem dX7_house_19 : decode cX7_house 19 = .ok (.ifCond .eq 7, 3) := by decide +kernel
theorem dX7_house_22 : decode cX7_house 22 = .ok (.iconst 0, 1) := by decide +kernel
theorem dX7_house_23 : decode cX7_house 23 = .ok (.goto 8, 3) := by decide +kernel
theorem dX7_house_26 : decode cX7_house 26 = .ok (.aload_n 0, 1) := by decide +kernel
theorem dX7_house_27 : decode cX7_house 27 = .ok (.iload_n 1, 1) := by decide +kernel
theorem dX7_house_28 : decode cX7_house 28 = .ok (.invokevirtual 206, 3) := by decide +kernel
theorem dX7_house_31 : decode cX7_house 31 = .ok (.ireturn, 1) := by decide +kernel
theorem dX7_knock_0 : decode cX7_knock 0 = .ok (.aload_n 0, 1) := by decide +kernel
theorem dX7_knock_1 : decode cX7_knock 1 = .ok (.iconst 0, 1) := by decide +kernel
theorem dX7_knock_2 : decode cX7_knock 2 = .ok (.putfield 21, 3) := by decide +kernel
theorem dX7_knock_5 : decode cX7_knock 5 = .ok (.aload_n 0, 1) := by decide +kernel
theorem dX7_knock_6 : decode cX7_knock 6 = .ok (.dup, 1) := by decide +kernel
theorem dX7_knock_7 : decode cX7_knock 7 = .ok (.getfield 203, 3) := by decide +kernel
theorem dX7_knock_10 : decode cX7_knock 10 = .ok (.iconst 1, 1) := by decide +kernel
theorem dX7_knock_11 : decode cX7_knock 11 = .ok (.iadd, 1) := by decide +kernel
theorem dX7_knock_12 : decode cX7_knock 12 = .ok (.putfield 203, 3) := by decide +kernel
theorem dX7_knock_15 : decode cX7_knock 15 = .ok (.aload_n 0, 1) := by decide +kernel
theorem dX7_knock_16 : decode cX7_knock 16 = .ok (.getfield 203, 3) := by decide +kernel
theorem dX7_knock_19 : decode cX7_knock 19 = .ok (.ireturn, 1) := by decide +kernel
theorem dX7_isWhole_0 : decode cX7_isWhole 0 = .ok (.aload_n 0, 1) := by decide +kernel
theorem dX7_isWhole_1 : decode cX7_isWhole 1 = .ok (.getfield 9, 3) := by decide +kernel
theorem dX7_isWhole_4 : decode cX7_isWhole 4 = .ok (.astore_n 1, 1) := by decide +kernel
theorem dX7_isWhole_5 : decode cX7_isWhole 5 = .ok (.aload_n 1, 1) := by decide +kernel
theorem dX7_isWhole_6 : decode cX7_isWhole 6 = .ok (.arraylength, 1) := by decide +kernel
theorem dX7_isWhole_7 : decode cX7_isWhole 7 = .ok (.istore_n 2, 1) := by decide +kernel
theorem dX7_isWhole_8 : decode cX7_isWhole 8 = .ok (.iconst 0, 1) := by decide +kernel
theorem dX7_isWhole_9 : decode cX7_isWhole 9 = .ok (.istore_n 3, 1) := by decide +kernel
theorem dX7_isWhole_10 : decode cX7_isWhole 10 = .ok (.iload_n 3, 1) := by decide +kernel
theorem dX7_isWhole_11 : decode cX7_isWhole 11 = .ok (.iload_n 2, 1) := by decide +kernel
theorem dX7_isWhole_12 : decode cX7_isWhole 12 = .ok (.if_icmp .ge 40, 3) := by decide +kernel
theorem dX7_isWhole_15 : decode cX7_isWhole 15 = .ok (.aload_n 1, 1) := by decide +kernel
theorem dX7_isWhole_16 : decode cX7_isWhole 16 = .ok (.iload_n 3, 1) := by decide +kernel
theorem dX7_isWhole_17 : decode cX7_isWhole 17 = .ok (.aaload, 1) := by decide +kernel
theorem dX7_isWhole_18 : decode cX7_isWhole 18 = .ok (.astore 4, 2) := by decide +kernel
theorem dX7_isWhole_20 : decode cX7_isWhole 20 = .ok (.aload 4, 2) := by decide +kernel
theorem dX7_isWhole_22 : decode cX7_isWhole 22 = .ok (.arraylength, 1) := by decide +kernel
theorem dX7_isWhole_23 : decode cX7_isWhole 23 = .ok (.bipush 64, 2) := by decide +kernel
theorem dX7_isWhole_25 : decode cX7_isWhole 25 = .ok (.if_icmp .gt 19, 3) := by decide +kernel
theorem dX7_isWhole_28 : decode cX7_isWhole 28 = .ok (.aload 4, 2) := by decide +kernel
theorem dX7_isWhole_30 : decode cX7_isWhole 30 = .ok (.invokestatic 93, 3) := by decide +kernel
theorem dX7_isWhole_33 : decode cX7_isWhole 33 = .ok (.invokestatic 93, 3) := by decide +kernel
theorem dX7_isWhole_36 : decode cX7_isWhole 36 = .ok (.aload 4, 2) := by decide +kernel
theorem dX7_isWhole_38 : decode cX7_isWhole 38 = .ok (.invokestatic 89, 3) := by decide +kernel
theorem dX7_isWhole_41 : decode cX7_isWhole 41 = .ok (.ifCond .ne 5, 3) := by decide +kernel
theorem dX7_isWhole_44 : decode cX7_isWhole 44 = .ok (.iconst 0, 1) := by decide +kernel
theorem dX7_isWhole_45 : decode cX7_isWhole 45 = .ok (.ireturn, 1) := by decide +kernel
theorem dX7_isWhole_46 : decode cX7_isWhole 46 = .ok (.iinc 3 1, 3) := by decide +kernel
theorem dX7_isWhole_49 : decode cX7_isWhole 49 = .ok (.goto (-39), 3) := by decide +kernel
theorem dX7_isWhole_52 : decode cX7_isWhole 52 = .ok (.iconst 0, 1) := by decide +kernel
theorem dX7_isWhole_53 : decode cX7_isWhole 53 = .ok (.istore_n 1, 1) := by decide +kernel
theorem dX7_isWhole_54 : decode cX7_isWhole 54 = .ok (.iload_n 1, 1) := by decide +kernel
theorem dX7_isWhole_55 : decode cX7_isWhole 55 = .ok (.iconst 2, 1) := by decide +kernel
theorem dX7_isWhole_56 : decode cX7_isWhole 56 = .ok (.if_icmp .ge 86, 3) := by decide +kernel
theorem dX7_isWhole_59 : decode cX7_isWhole 59 = .ok (.aload_n 0, 1) := by decide +kernel
theorem dX7_isWhole_60 : decode cX7_isWhole 60 = .ok (.iload_n 1, 1) := by decide +kernel
theorem dX7_isWhole_61 : decode cX7_isWhole 61 = .ok (.iconst 0, 1) := by decide +kernel
theorem dX7_isWhole_62 : decode cX7_isWhole 62 = .ok (.invokevirtual 192, 3) := by decide +kernel
theorem dX7_isWhole_65 : decode cX7_isWhole 65 = .ok (.astore_n 2, 1) := by decide +kernel
theorem dX7_isWhole_66 : decode cX7_isWhole 66 = .ok (.aload_n 0, 1) := by decide +kernel
theorem dX7_isWhole_67 : decode cX7_isWhole 67 = .ok (.iload_n 1, 1) := by decide +kernel
theorem dX7_isWhole_68 : decode cX7_isWhole 68 = .ok (.iconst 1, 1) := by decide +kernel
theorem dX7_isWhole_69 : decode cX7_isWhole 69 = .ok (.invokevirtual 192, 3) := by decide +kernel
theorem dX7_isWhole_72 : decode cX7_isWhole 72 = .ok (.astore_n 3, 1) := by decide +kernel
theorem dX7_isWhole_73 : decode cX7_isWhole 73 = .ok (.aload_n 2, 1) := by decide +kernel
theorem dX7_isWhole_74 : decode cX7_isWhole 74 = .ok (.aload_n 0, 1) := by decide +kernel
theorem dX7_isWhole_75 : decode cX7_isWhole 75 = .ok (.iload_n 1, 1) := by decide +kernel
theorem dX7_isWhole_76 : decode cX7_isWhole 76 = .ok (.invokevirtual 120, 3) := by decide +kernel
theorem dX7_isWhole_79 : decode cX7_isWhole 79 = .ok (.invokestatic 89, 3) := by decide +kernel
theorem dX7_isWhole_82 : decode cX7_isWhole 82 = .ok (.ifCond .eq 15, 3) := by decide +kernel
theorem dX7_isWhole_85 : decode cX7_isWhole 85 = .ok (.aload_n 2, 1) := by decide +kernel
theorem dX7_isWhole_86 : decode cX7_isWhole 86 = .ok (.aload_n 0, 1) := by decide +kernel
theorem dX7_isWhole_87 : decode cX7_isWhole 87 = .ok (.iload_n 1, 1) := by decide +kernel
theorem dX7_isWhole_88 : decode cX7_isWhole 88 = .ok (.invokevirtual 123, 3) := by decide +kernel
theorem dX7_isWhole_91 : decode cX7_isWhole 91 = .ok (.invokestatic 89, 3) := by decide +kernel
theorem dX7_isWhole_94 : decode cX7_isWhole 94 = .ok (.ifCond .ne 5, 3) := by decide +kernel
theorem dX7_isWhole_97 : decode cX7_isWhole 97 = .ok (.iconst 0, 1) := by decide +kernel
theorem dX7_isWhole_98 : decode cX7_isWhole 98 = .ok (.ireturn, 1) := by decide +kernel
theorem dX7_isWhole_99 : decode cX7_isWhole 99 = .ok (.aload_n 2, 1) := by decide +kernel
theorem dX7_isWhole_100 : decode cX7_isWhole 100 = .ok (.aload_n 3, 1) := by decide +kernel
theorem dX7_isWhole_101 : decode cX7_isWhole 101 = .ok (.invokestatic 196, 3) := by decide +kernel
theorem dX7_isWhole_104 : decode cX7_isWhole 104 = .ok (.iconst 1, 1) := by decide +kernel
theorem dX7_isWhole_105 : decode cX7_isWhole 105 = .ok (.aload_n 0, 1) := by decide +kernel
theorem dX7_isWhole_106 : decode cX7_isWhole 106 = .ok (.getfield 18, 3) := by decide +kernel
theorem dX7_isWhole_109 : decode cX7_isWhole 109 = .ok (.iload_n 1, 1) := by decide +kernel
theorem dX7_isWhole_110 : decode cX7_isWhole 110 = .ok (.iaload, 1) := by decide +kernel
theorem dX7_isWhole_111 : decode cX7_isWhole 111 = .ok (.iconst 2, 1) := by decide +kernel
theorem dX7_isWhole_112 : decode cX7_isWhole 112 = .ok (.irem, 1) := by decide +kernel
theorem dX7_isWhole_113 : decode cX7_isWhole 113 = .ok (.iconst 2, 1) := by decide +kernel
theorem dX7_isWhole_114 : decode cX7_isWhole 114 = .ok (.imul, 1) := by decide +kernel
theorem dX7_isWhole_115 : decode cX7_isWhole 115 = .ok (.isub, 1) := by decide +kernel
theorem dX7_isWhole_116 : decode cX7_isWhole 116 = .ok (.if_icmp .ne 18, 3) := by decide +kernel
theorem dX7_isWhole_119 : decode cX7_isWhole 119 = .ok (.aload_n 2, 1) := by decide +kernel
theorem dX7_isWhole_120 : decode cX7_isWhole 120 = .ok (.aload_n 3, 1) := by decide +kernel
theorem dX7_isWhole_121 : decode cX7_isWhole 121 = .ok (.invokestatic 200, 3) := by decide +kernel
theorem dX7_isWhole_124 : decode cX7_isWhole 124 = .ok (.aload_n 2, 1) := by decide +kernel
theorem dX7_isWhole_125 : decode cX7_isWhole 125 = .ok (.arraylength, 1) := by decide +kernel
theorem dX7_isWhole_126 : decode cX7_isWhole 126 = .ok (.aload_n 3, 1) := by decide +kernel
theorem dX7_isWhole_127 : decode cX7_isWhole 127 = .ok (.arraylength, 1) := by decide +kernel
theorem dX7_isWhole_128 : decode cX7_isWhole 128 = .ok (.iadd, 1) := by decide +kernel
theorem dX7_isWhole_129 : decode cX7_isWhole 129 = .ok (.iconst 2, 1) := by decide +kernel
theorem dX7_isWhole_130 : decode cX7_isWhole 130 = .ok (.isub, 1) := by decide +kernel
theorem dX7_isWhole_131 : decode cX7_isWhole 131 = .ok (.if_icmp .eq 5, 3) := by decide +kernel
theorem dX7_isWhole_134 : decode cX7_isWhole 134 = .ok (.iconst 0, 1) := by decide +kernel
theorem dX7_isWhole_135 : decode cX7_isWhole 135 = .ok (.ireturn, 1) := by decide +kernel
theorem dX7_isWhole_136 : decode cX7_isWhole 136 = .ok (.iinc 1 1, 3) := by decide +kernel
theorem dX7_isWhole_139 : decode cX7_isWhole 139 = .ok (.goto (-85), 3) := by decide +kernel
theorem dX7_isWhole_142 : decode cX7_isWhole 142 = .ok (.iconst 1, 1) := by decide +kernel
theorem dX7_isWhole_143 : decode cX7_isWhole 143 = .ok (.ireturn, 1) := by decide +kernel
theorem dX7_isSound_0 : decode cX7_isSound 0 = .ok (.aload_n 0, 1) := by decide +kernel
theorem dX7_isSound_1 : decode cX7_isSound 1 = .ok (.iconst 0, 1) := by decide +kernel
theorem dX7_isSound_2 : decode cX7_isSound 2 = .ok (.putfield 21, 3) := by decide +kernel
theorem dX7_isSound_5 : decode cX7_isSound 5 = .ok (.aload_n 0, 1) := by decide +kernel
theorem dX7_isSound_6 : decode cX7_isSound 6 = .ok (.invokevirtual 210, 3) := by decide +kernel
theorem dX7_isSound_9 : decode cX7_isSound 9 = .ok (.ireturn, 1) := by decide +kernel
theorem dX7_add_0 : decode cX7_add 0 = .ok (.lload_n 0, 1) := by decide +kernel
theorem dX7_add_1 : decode cX7_add 1 = .ok (.ldc2_w 214, 3) := by decide +kernel
theorem dX7_add_4 : decode cX7_add 4 = .ok (.lmul, 1) := by decide +kernel
theorem dX7_add_5 : decode cX7_add 5 = .ok (.lload_n 2, 1) := by decide +kernel
theorem dX7_add_6 : decode cX7_add 6 = .ok (.ladd, 1) := by decide +kernel
theorem dX7_add_7 : decode cX7_add 7 = .ok (.lreturn, 1) := by decide +kernel
theorem dX7_added_0 : decode cX7_added 0 = .ok (.aload_n 0, 1) := by decide +kernel
theorem dX7_added_1 : decode cX7_added 1 = .ok (.iload_n 3, 1) := by decide +kernel
theorem dX7_added_2 : decode cX7_added 2 = .ok (.iconst 0, 1) := by decide +kernel
theorem dX7_added_3 : decode cX7_added 3 = .ok (.invokevirtual 192, 3) := by decide +kernel
theorem dX7_added_6 : decode cX7_added 6 = .ok (.astore 4, 2) := by decide +kernel
theorem dX7_added_8 : decode cX7_added 8 = .ok (.aload_n 0, 1) := by decide +kernel
theorem dX7_added_9 : decode cX7_added 9 = .ok (.iload_n 3, 1) := by decide +kernel
theorem dX7_added_10 : decode cX7_added 10 = .ok (.iconst 1, 1) := by decide +kernel
theorem dX7_added_11 : decode cX7_added 11 = .ok (.invokevirtual 192, 3) := by decide +kernel
theorem dX7_added_14 : decode cX7_added 14 = .ok (.astore 5, 2) := by decide +kernel
theorem dX7_added_16 : decode cX7_added 16 = .ok (.lload_n 1, 1) := by decide +kernel
theorem dX7_added_17 : decode cX7_added 17 = .ok (.aload_n 0, 1) := by decide +kernel
theorem dX7_added_18 : decode cX7_added 18 = .ok (.getfield 18, 3) := by decide +kernel
theorem dX7_added_21 : decode cX7_added 21 = .ok (.iload_n 3, 1) := by decide +kernel
theorem dX7_added_22 : decode cX7_added 22 = .ok (.iaload, 1) := by decide +kernel
theorem dX7_added_23 : decode cX7_added 23 = .ok (.i2l, 1) := by decide +kernel
theorem dX7_added_24 : decode cX7_added 24 = .ok (.invokestatic 216, 3) := by decide +kernel
theorem dX7_added_27 : decode cX7_added 27 = .ok (.lstore 6, 2) := by decide +kernel
theorem dX7_added_29 : decode cX7_added 29 = .ok (.iconst 0, 1) := by decide +kernel
theorem dX7_added_30 : decode cX7_added 30 = .ok (.istore 8, 2) := by decide +kernel
theorem dX7_added_32 : decode cX7_added 32 = .ok (.iload 8, 2) := by decide +kernel
theorem dX7_added_34 : decode cX7_added 34 = .ok (.aload_n 0, 1) := by decide +kernel
theorem dX7_added_35 : decode cX7_added 35 = .ok (.getfield 18, 3) := by decide +kernel
theorem dX7_added_38 : decode cX7_added 38 = .ok (.iload_n 3, 1) := by decide +kernel
theorem dX7_added_39 : decode cX7_added 39 = .ok (.iaload, 1) := by decide +kernel
theorem dX7_added_40 : decode cX7_added 40 = .ok (.if_icmp .ge 26, 3) := by decide +kernel
theorem dX7_added_43 : decode cX7_added 43 = .ok (.lload 6, 2) := by decide +kernel
theorem dX7_added_45 : decode cX7_added 45 = .ok (.aload_n 0, 1) := by decide +kernel
theorem dX7_added_46 : decode cX7_added 46 = .ok (.getfield 15, 3) := by decide +kernel
theorem dX7_added_49 : decode cX7_added 49 = .ok (.iload_n 3, 1) := by decide +kernel
theorem dX7_added_50 : decode cX7_added 50 = .ok (.aaload, 1) := by decide +kernel
theorem dX7_added_51 : decode cX7_added 51 = .ok (.iload 8, 2) := by decide +kernel
theorem dX7_added_53 : decode cX7_added 53 = .ok (.iaload, 1) := by decide +kernel
theorem dX7_added_54 : decode cX7_added 54 = .ok (.i2l, 1) := by decide +kernel
theorem dX7_added_55 : decode cX7_added 55 = .ok (.invokestatic 216, 3) := by decide +kernel
theorem dX7_added_58 : decode cX7_added 58 = .ok (.lstore 6, 2) := by decide +kernel
theorem dX7_added_60 : decode cX7_added 60 = .ok (.iinc 8 1, 3) := by decide +kernel
theorem dX7_added_63 : decode cX7_added 63 = .ok (.goto (-31), 3) := by decide +kernel
theorem dX7_added_66 : decode cX7_added 66 = .ok (.lload 6, 2) := by decide +kernel
theorem dX7_added_68 : decode cX7_added 68 = .ok (.aload 4, 2) := by decide +kernel
theorem dX7_added_70 : decode cX7_added 70 = .ok (.arraylength, 1) := by decide +kernel
theorem dX7_added_71 : decode cX7_added 71 = .ok (.i2l, 1) := by decide +kernel
theorem dX7_added_72 : decode cX7_added 72 = .ok (.invokestatic 216, 3) := by decide +kernel
theorem dX7_added_75 : decode cX7_added 75 = .ok (.aload 5, 2) := by decide +kernel
theorem dX7_added_77 : decode cX7_added 77 = .ok (.arraylength, 1) := by decide +kernel
theorem dX7_added_78 : decode cX7_added 78 = .ok (.i2l, 1) := by decide +kernel
theorem dX7_added_79 : decode cX7_added 79 = .ok (.invokestatic 216, 3) := by decide +kernel
theorem dX7_added_82 : decode cX7_added 82 = .ok (.lstore 6, 2) := by decide +kernel
theorem dX7_added_84 : decode cX7_added 84 = .ok (.lload 6, 2) := by decide +kernel
theorem dX7_added_86 : decode cX7_added 86 = .ok (.aload 4, 2) := by decide +kernel
theorem dX7_added_88 : decode cX7_added 88 = .ok (.invokestatic 41, 3) := by decide +kernel
theorem dX7_added_91 : decode cX7_added 91 = .ok (.i2l, 1) := by decide +kernel
theorem dX7_added_92 : decode cX7_added 92 = .ok (.invokestatic 216, 3) := by decide +kernel
theorem dX7_added_95 : decode cX7_added 95 = .ok (.aload 5, 2) := by decide +kernel
theorem dX7_added_97 : decode cX7_added 97 = .ok (.invokestatic 41, 3) := by decide +kernel
theorem dX7_added_100 : decode cX7_added 100 = .ok (.i2l, 1) := by decide +kernel
theorem dX7_added_101 : decode cX7_added 101 = .ok (.invokestatic 216, 3) := by decide +kernel
theorem dX7_added_104 : decode cX7_added 104 = .ok (.lstore 6, 2) := by decide +kernel
theorem dX7_added_106 : decode cX7_added 106 = .ok (.lload 6, 2) := by decide +kernel
theorem dX7_added_108 : decode cX7_added 108 = .ok (.aload 4, 2) := by decide +kernel
theorem dX7_added_110 : decode cX7_added 110 = .ok (.aload 5, 2) := by decide +kernel
theorem dX7_added_112 : decode cX7_added 112 = .ok (.invokestatic 196, 3) := by decide +kernel
theorem dX7_added_115 : decode cX7_added 115 = .ok (.i2l, 1) := by decide +kernel
theorem dX7_added_116 : decode cX7_added 116 = .ok (.invokestatic 216, 3) := by decide +kernel
theorem dX7_added_119 : decode cX7_added 119 = .ok (.aload 4, 2) := by decide +kernel
theorem dX7_added_121 : decode cX7_added 121 = .ok (.aload 5, 2) := by decide +kernel
theorem dX7_added_123 : decode cX7_added 123 = .ok (.invokestatic 200, 3) := by decide +kernel
theorem dX7_added_126 : decode cX7_added 126 = .ok (.i2l, 1) := by decide +kernel
theorem dX7_added_127 : decode cX7_added 127 = .ok (.invokestatic 216, 3) := by decide +kernel
theorem dX7_added_130 : decode cX7_added 130 = .ok (.lreturn, 1) := by decide +kernel
theorem dX7_digest_0 : decode cX7_digest 0 = .ok (.aload_n 0, 1) := by decide +kernel
theorem dX7_digest_1 : decode cX7_digest 1 = .ok (.iconst 0, 1) := by decide +kernel
theorem dX7_digest_2 : decode cX7_digest 2 = .ok (.putfield 21, 3) := by decide +kernel
theorem dX7_digest_5 : decode cX7_digest 5 = .ok (.ldc2_w 220, 3) := by decide +kernel
theorem dX7_digest_8 : decode cX7_digest 8 = .ok (.lstore_n 1, 1) := by decide +kernel
theorem dX7_digest_9 : decode cX7_digest 9 = .ok (.aload_n 0, 1) := by decide +kernel
theorem dX7_digest_10 : decode cX7_digest 10 = .ok (.getfield 9, 3) := by decide +kernel
theorem dX7_digest_13 : decode cX7_digest 13 = .ok (.astore_n 3, 1) := by decide +kernel
theorem dX7_digest_14 : decode cX7_digest 14 = .ok (.aload_n 3, 1) := by decide +kernel
theorem dX7_digest_15 : decode cX7_digest 15 = .ok (.arraylength, 1) := by decide +kernel
theorem dX7_digest_16 : decode cX7_digest 16 = .ok (.istore 4, 2) := by decide +kernel
theorem dX7_digest_18 : decode cX7_digest 18 = .ok (.iconst 0, 1) := by decide +kernel
theorem dX7_digest_19 : decode cX7_digest 19 = .ok (.istore 5, 2) := by decide +kernel
theorem dX7_digest_21 : decode cX7_digest 21 = .ok (.iload 5, 2) := by decide +kernel
theorem dX7_digest_23 : decode cX7_digest 23 = .ok (.iload 4, 2) := by decide +kernel
theorem dX7_digest_25 : decode cX7_digest 25 = .ok (.if_icmp .ge 133, 3) := by decide +kernel
theorem dX7_digest_28 : decode cX7_digest 28 = .ok (.aload_n 3, 1) := by decide +kernel
theorem dX7_digest_29 : decode cX7_digest 29 = .ok (.iload 5, 2) := by decide +kernel
theorem dX7_digest_31 : decode cX7_digest 31 = .ok (.aaload, 1) := by decide +kernel
theorem dX7_digest_32 : decode cX7_digest 32 = .ok (.astore 6, 2) := by decide +kernel
theorem dX7_digest_34 : decode cX7_digest 34 = .ok (.lload_n 1, 1) := by decide +kernel
theorem dX7_digest_35 : decode cX7_digest 35 = .ok (.aload 6, 2) := by decide +kernel
theorem dX7_digest_37 : decode cX7_digest 37 = .ok (.arraylength, 1) := by decide +kernel
theorem dX7_digest_38 : decode cX7_digest 38 = .ok (.i2l, 1) := by decide +kernel
theorem dX7_digest_39 : decode cX7_digest 39 = .ok (.invokestatic 216, 3) := by decide +kernel
theorem dX7_digest_42 : decode cX7_digest 42 = .ok (.lstore_n 1, 1) := by decide +kernel
theorem dX7_digest_43 : decode cX7_digest 43 = .ok (.aload 6, 2) := by decide +kernel
theorem dX7_digest_45 : decode cX7_digest 45 = .ok (.astore 7, 2) := by decide +kernel
theorem dX7_digest_47 : decode cX7_digest 47 = .ok (.aload 7, 2) := by decide +kernel
theorem dX7_digest_49 : decode cX7_digest 49 = .ok (.arraylength, 1) := by decide +kernel
theorem dX7_digest_50 : decode cX7_digest 50 = .ok (.istore 8, 2) := by decide +kernel
theorem dX7_digest_52 : decode cX7_digest 52 = .ok (.iconst 0, 1) := by decide +kernel
theorem dX7_digest_53 : decode cX7_digest 53 = .ok (.istore 9, 2) := by decide +kernel
theorem dX7_digest_55 : decode cX7_digest 55 = .ok (.iload 9, 2) := by decide +kernel
theorem dX7_digest_57 : decode cX7_digest 57 = .ok (.iload 8, 2) := by decide +kernel
theorem dX7_digest_59 : decode cX7_digest 59 = .ok (.if_icmp .ge 26, 3) := by decide +kernel
theorem dX7_digest_62 : decode cX7_digest 62 = .ok (.aload 7, 2) := by decide +kernel
theorem dX7_digest_64 : decode cX7_digest 64 = .ok (.iload 9, 2) := by decide +kernel
theorem dX7_digest_66 : decode cX7_digest 66 = .ok (.iaload, 1) := by decide +kernel
theorem dX7_digest_67 : decode cX7_digest 67 = .ok (.istore 10, 2) := by decide +kernel
theorem dX7_digest_69 : decode cX7_digest 69 = .ok (.lload_n 1, 1) := by decide +kernel
theorem dX7_digest_70 : decode cX7_digest 70 = .ok (.iload 10, 2) := by decide +kernel
theorem dX7_digest_72 : decode cX7_digest 72 = .ok (.iconst 1, 1) := by decide +kernel
theorem dX7_digest_73 : decode cX7_digest 73 = .ok (.iadd, 1) := by decide +kernel
theorem dX7_digest_74 : decode cX7_digest 74 = .ok (.i2l, 1) := by decide +kernel
theorem dX7_digest_75 : decode cX7_digest 75 = .ok (.invokestatic 216, 3) := by decide +kernel
theorem dX7_digest_78 : decode cX7_digest 78 = .ok (.lstore_n 1, 1) := by decide +kernel
theorem dX7_digest_79 : decode cX7_digest 79 = .ok (.iinc 9 1, 3) := by decide +kernel
theorem dX7_digest_82 : decode cX7_digest 82 = .ok (.goto (-27), 3) := by decide +kernel
theorem dX7_digest_85 : decode cX7_digest 85 = .ok (.lload_n 1, 1) := by decide +kernel
theorem dX7_digest_86 : decode cX7_digest 86 = .ok (.aload 6, 2) := by decide +kernel
theorem dX7_digest_88 : decode cX7_digest 88 = .ok (.invokestatic 41, 3) := by decide +kernel
theorem dX7_digest_91 : decode cX7_digest 91 = .ok (.i2l, 1) := by decide +kernel
theorem dX7_digest_92 : decode cX7_digest 92 = .ok (.invokestatic 216, 3) := by decide +kernel
theorem dX7_digest_95 : decode cX7_digest 95 = .ok (.aload 6, 2) := by decide +kernel
theorem dX7_digest_97 : decode cX7_digest 97 = .ok (.iconst 0, 1) := by decide +kernel
theorem dX7_digest_98 : decode cX7_digest 98 = .ok (.aload 6, 2) := by decide +kernel
theorem dX7_digest_100 : decode cX7_digest 100 = .ok (.arraylength, 1) := by decide +kernel
theorem dX7_digest_101 : decode cX7_digest 101 = .ok (.invokestatic 156, 3) := by decide +kernel
theorem dX7_digest_104 : decode cX7_digest 104 = .ok (.invokestatic 79, 3) := by decide +kernel
theorem dX7_digest_107 : decode cX7_digest 107 = .ok (.i2l, 1) := by decide +kernel
theorem dX7_digest_108 : decode cX7_digest 108 = .ok (.invokestatic 216, 3) := by decide +kernel
theorem dX7_digest_111 : decode cX7_digest 111 = .ok (.lstore_n 1, 1) := by decide +kernel
theorem dX7_digest_112 : decode cX7_digest 112 = .ok (.lload_n 1, 1) := by decide +kernel
theorem dX7_digest_113 : decode cX7_digest 113 = .ok (.aload 6, 2) := by decide +kernel
theorem dX7_digest_115 : decode cX7_digest 115 = .ok (.invokestatic 177, 3) := by decide +kernel
theorem dX7_digest_118 : decode cX7_digest 118 = .ok (.i2l, 1) := by decide +kernel
theorem dX7_digest_119 : decode cX7_digest 119 = .ok (.invokestatic 216, 3) := by decide +kernel
theorem dX7_digest_122 : decode cX7_digest 122 = .ok (.aload 6, 2) := by decide +kernel
theorem dX7_digest_124 : decode cX7_digest 124 = .ok (.invokestatic 180, 3) := by decide +kernel
theorem dX7_digest_127 : decode cX7_digest 127 = .ok (.i2l, 1) := by decide +kernel
theorem dX7_digest_128 : decode cX7_digest 128 = .ok (.invokestatic 216, 3) := by decide +kernel
theorem dX7_digest_131 : decode cX7_digest 131 = .ok (.lstore_n 1, 1) := by decide +kernel
theorem dX7_digest_132 : decode cX7_digest 132 = .ok (.lload_n 1, 1) := by decide +kernel
theorem dX7_digest_133 : decode cX7_digest 133 = .ok (.aload 6, 2) := by decide +kernel
theorem dX7_digest_135 : decode cX7_digest 135 = .ok (.invokestatic 183, 3) := by decide +kernel
theorem dX7_digest_138 : decode cX7_digest 138 = .ok (.i2l, 1) := by decide +kernel
theorem dX7_digest_139 : decode cX7_digest 139 = .ok (.invokestatic 216, 3) := by decide +kernel
theorem dX7_digest_142 : decode cX7_digest 142 = .ok (.aload 6, 2) := by decide +kernel
theorem dX7_digest_144 : decode cX7_digest 144 = .ok (.invokestatic 186, 3) := by decide +kernel
theorem dX7_digest_147 : decode cX7_digest 147 = .ok (.i2l, 1) := by decide +kernel
theorem dX7_digest_148 : decode cX7_digest 148 = .ok (.invokestatic 216, 3) := by decide +kernel
theorem dX7_digest_151 : decode cX7_digest 151 = .ok (.lstore_n 1, 1) := by decide +kernel
theorem dX7_digest_152 : decode cX7_digest 152 = .ok (.iinc 5 1, 3) := by decide +kernel
theorem dX7_digest_155 : decode cX7_digest 155 = .ok (.goto (-134), 3) := by decide +kernel
theorem dX7_digest_158 : decode cX7_digest 158 = .ok (.aload_n 0, 1) := by decide +kernel
theorem dX7_digest_159 : decode cX7_digest 159 = .ok (.aload_n 0, 1) := by decide +kernel
theorem dX7_digest_160 : decode cX7_digest 160 = .ok (.lload_n 1, 1) := by decide +kernel
theorem dX7_digest_161 : decode cX7_digest 161 = .ok (.iconst 0, 1) := by decide +kernel
theorem dX7_digest_162 : decode cX7_digest 162 = .ok (.invokevirtual 222, 3) := by decide +kernel
theorem dX7_digest_165 : decode cX7_digest 165 = .ok (.iconst 1, 1) := by decide +kernel
theorem dX7_digest_166 : decode cX7_digest 166 = .ok (.invokevirtual 222, 3) := by decide +kernel
theorem dX7_digest_169 : decode cX7_digest 169 = .ok (.lstore_n 1, 1) := by decide +kernel
theorem dX7_digest_170 : decode cX7_digest 170 = .ok (.iconst 0, 1) := by decide +kernel
theorem dX7_digest_171 : decode cX7_digest 171 = .ok (.istore_n 3, 1) := by decide +kernel
theorem dX7_digest_172 : decode cX7_digest 172 = .ok (.iload_n 3, 1) := by decide +kernel
theorem dX7_digest_173 : decode cX7_digest 173 = .ok (.iconst 4, 1) := by decide +kernel
theorem dX7_digest_174 : decode cX7_digest 174 = .ok (.if_icmp .ge 20, 3) := by decide +kernel
theorem dX7_digest_177 : decode cX7_digest 177 = .ok (.lload_n 1, 1) := by decide +kernel
theorem dX7_digest_178 : decode cX7_digest 178 = .ok (.aload_n 0, 1) := by decide +kernel
theorem dX7_digest_179 : decode cX7_digest 179 = .ok (.iload_n 3, 1) := by decide +kernel
theorem dX7_digest_180 : decode cX7_digest 180 = .ok (.invokevirtual 206, 3) := by decide +kernel
theorem dX7_digest_183 : decode cX7_digest 183 = .ok (.i2l, 1) := by decide +kernel
theorem dX7_digest_184 : decode cX7_digest 184 = .ok (.invokestatic 216, 3) := by decide +kernel
theorem dX7_digest_187 : decode cX7_digest 187 = .ok (.lstore_n 1, 1) := by decide +kernel
theorem dX7_digest_188 : decode cX7_digest 188 = .ok (.iinc 3 1, 3) := by decide +kernel
theorem dX7_digest_191 : decode cX7_digest 191 = .ok (.goto (-19), 3) := by decide +kernel
theorem dX7_digest_194 : decode cX7_digest 194 = .ok (.lload_n 1, 1) := by decide +kernel
theorem dX7_digest_195 : decode cX7_digest 195 = .ok (.aload_n 0, 1) := by decide +kernel
theorem dX7_digest_196 : decode cX7_digest 196 = .ok (.invokevirtual 210, 3) := by decide +kernel
theorem dX7_digest_199 : decode cX7_digest 199 = .ok (.invokestatic 79, 3) := by decide +kernel
theorem dX7_digest_202 : decode cX7_digest 202 = .ok (.i2l, 1) := by decide +kernel
theorem dX7_digest_203 : decode cX7_digest 203 = .ok (.invokestatic 216, 3) := by decide +kernel
theorem dX7_digest_206 : decode cX7_digest 206 = .ok (.lreturn, 1) := by decide +kernel
