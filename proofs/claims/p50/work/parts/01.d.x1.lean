theorem dX0_init_0 : decode cX0_init 0 = .ok (.aload_n 0, 1) := by decide +kernel
theorem dX0_init_1 : decode cX0_init 1 = .ok (.invokespecial 3, 3) := by decide +kernel
theorem dX0_init_4 : decode cX0_init 4 = .ok (.aload_n 0, 1) := by decide +kernel
theorem dX0_init_5 : decode cX0_init 5 = .ok (.bipush 64, 2) := by decide +kernel
theorem dX0_init_7 : decode cX0_init 7 = .ok (.newarray .int, 2) := by decide +kernel
theorem dX0_init_9 : decode cX0_init 9 = .ok (.putfield 9, 3) := by decide +kernel
theorem dX0_init_12 : decode cX0_init 12 = .ok (.aload_n 0, 1) := by decide +kernel
theorem dX0_init_13 : decode cX0_init 13 = .ok (.new 15, 3) := by decide +kernel
theorem dX0_init_16 : decode cX0_init 16 = .ok (.dup, 1) := by decide +kernel
theorem dX0_init_17 : decode cX0_init 17 = .ok (.invokespecial 17, 3) := by decide +kernel
theorem dX0_init_20 : decode cX0_init 20 = .ok (.putfield 18, 3) := by decide +kernel
theorem dX0_init_23 : decode cX0_init 23 = .ok (.aload_n 0, 1) := by decide +kernel
theorem dX0_init_24 : decode cX0_init 24 = .ok (.new 15, 3) := by decide +kernel
theorem dX0_init_27 : decode cX0_init 27 = .ok (.dup, 1) := by decide +kernel
theorem dX0_init_28 : decode cX0_init 28 = .ok (.invokespecial 17, 3) := by decide +kernel
theorem dX0_init_31 : decode cX0_init 31 = .ok (.putfield 22, 3) := by decide +kernel
theorem dX0_init_34 : decode cX0_init 34 = .ok (.aload_n 0, 1) := by decide +kernel
theorem dX0_init_35 : decode cX0_init 35 = .ok (.invokevirtual 25, 3) := by decide +kernel
theorem dX0_init_38 : decode cX0_init 38 = .ok (.return_, 1) := by decide +kernel
theorem dX0_begin_0 : decode cX0_begin 0 = .ok (.aload_n 0, 1) := by decide +kernel
theorem dX0_begin_1 : decode cX0_begin 1 = .ok (.iconst 0, 1) := by decide +kernel
theorem dX0_begin_2 : decode cX0_begin 2 = .ok (.putfield 28, 3) := by decide +kernel
theorem dX0_begin_5 : decode cX0_begin 5 = .ok (.aload_n 0, 1) := by decide +kernel
theorem dX0_begin_6 : decode cX0_begin 6 = .ok (.getfield 18, 3) := by decide +kernel
theorem dX0_begin_9 : decode cX0_begin 9 = .ok (.invokevirtual 32, 3) := by decide +kernel
theorem dX0_begin_12 : decode cX0_begin 12 = .ok (.aload_n 0, 1) := by decide +kernel
theorem dX0_begin_13 : decode cX0_begin 13 = .ok (.getfield 18, 3) := by decide +kernel
theorem dX0_begin_16 : decode cX0_begin 16 = .ok (.iconst 1, 1) := by decide +kernel
theorem dX0_begin_17 : decode cX0_begin 17 = .ok (.invokevirtual 35, 3) := by decide +kernel
theorem dX0_begin_20 : decode cX0_begin 20 = .ok (.aload_n 0, 1) := by decide +kernel
theorem dX0_begin_21 : decode cX0_begin 21 = .ok (.getfield 22, 3) := by decide +kernel
theorem dX0_begin_24 : decode cX0_begin 24 = .ok (.invokevirtual 32, 3) := by decide +kernel
theorem dX0_begin_27 : decode cX0_begin 27 = .ok (.aload_n 0, 1) := by decide +kernel
theorem dX0_begin_28 : decode cX0_begin 28 = .ok (.getfield 22, 3) := by decide +kernel
theorem dX0_begin_31 : decode cX0_begin 31 = .ok (.iconst 0, 1) := by decide +kernel
theorem dX0_begin_32 : decode cX0_begin 32 = .ok (.invokevirtual 35, 3) := by decide +kernel
theorem dX0_begin_35 : decode cX0_begin 35 = .ok (.return_, 1) := by decide +kernel
theorem dX0_wordBy_0 : decode cX0_wordBy 0 = .ok (.iload_n 1, 1) := by decide +kernel
theorem dX0_wordBy_1 : decode cX0_wordBy 1 = .ok (.ifCond .eq 10, 3) := by decide +kernel
theorem dX0_wordBy_4 : decode cX0_wordBy 4 = .ok (.aload_n 0, 1) := by decide +kernel
theorem dX0_wordBy_5 : decode cX0_wordBy 5 = .ok (.getfield 18, 3) := by decide +kernel
theorem dX0_wordBy_8 : decode cX0_wordBy 8 = .ok (.goto 7, 3) := by decide +kernel
theorem dX0_wordBy_11 : decode cX0_wordBy 11 = .ok (.aload_n 0, 1) := by decide +kernel
theorem dX0_wordBy_12 : decode cX0_wordBy 12 = .ok (.getfield 22, 3) := by decide +kernel
theorem dX0_wordBy_15 : decode cX0_wordBy 15 = .ok (.areturn, 1) := by decide +kernel
theorem dX0_turnAt_0 : decode cX0_turnAt 0 = .ok (.iload_n 1, 1) := by decide +kernel
theorem dX0_turnAt_1 : decode cX0_turnAt 1 = .ok (.ifCond .lt 21, 3) := by decide +kernel
theorem dX0_turnAt_4 : decode cX0_turnAt 4 = .ok (.iload_n 1, 1) := by decide +kernel
theorem dX0_turnAt_5 : decode cX0_turnAt 5 = .ok (.aload_n 0, 1) := by decide +kernel
theorem dX0_turnAt_6 : decode cX0_turnAt 6 = .ok (.getfield 9, 3) := by decide +kernel
theorem dX0_turnAt_9 : decode cX0_turnAt 9 = .ok (.arraylength, 1) := by decide +kernel
theorem dX0_turnAt_10 : decode cX0_turnAt 10 = .ok (.if_icmp .ge 12, 3) := by decide +kernel
theorem dX0_turnAt_13 : decode cX0_turnAt 13 = .ok (.aload_n 0, 1) := by decide +kernel
theorem dX0_turnAt_14 : decode cX0_turnAt 14 = .ok (.getfield 9, 3) := by decide +kernel
theorem dX0_turnAt_17 : decode cX0_turnAt 17 = .ok (.iload_n 1, 1) := by decide +kernel
theorem dX0_turnAt_18 : decode cX0_turnAt 18 = .ok (.iaload, 1) := by decide +kernel
theorem dX0_turnAt_19 : decode cX0_turnAt 19 = .ok (.goto 4, 3) := by decide +kernel
theorem dX0_turnAt_22 : decode cX0_turnAt 22 = .ok (.iconst 0, 1) := by decide +kernel
theorem dX0_turnAt_23 : decode cX0_turnAt 23 = .ok (.ireturn, 1) := by decide +kernel
theorem dX0_goOn_0 : decode cX0_goOn 0 = .ok (.aload_n 0, 1) := by decide +kernel
theorem dX0_goOn_1 : decode cX0_goOn 1 = .ok (.getfield 28, 3) := by decide +kernel
theorem dX0_goOn_4 : decode cX0_goOn 4 = .ok (.ifCond .lt 19, 3) := by decide +kernel
theorem dX0_goOn_7 : decode cX0_goOn 7 = .ok (.aload_n 0, 1) := by decide +kernel
theorem dX0_goOn_8 : decode cX0_goOn 8 = .ok (.getfield 28, 3) := by decide +kernel
theorem dX0_goOn_11 : decode cX0_goOn 11 = .ok (.aload_n 0, 1) := by decide +kernel
theorem dX0_goOn_12 : decode cX0_goOn 12 = .ok (.getfield 9, 3) := by decide +kernel
theorem dX0_goOn_15 : decode cX0_goOn 15 = .ok (.arraylength, 1) := by decide +kernel
theorem dX0_goOn_16 : decode cX0_goOn 16 = .ok (.if_icmp .ge 7, 3) := by decide +kernel
theorem dX0_goOn_19 : decode cX0_goOn 19 = .ok (.iconst 1, 1) := by decide +kernel
theorem dX0_goOn_20 : decode cX0_goOn 20 = .ok (.goto 4, 3) := by decide +kernel
theorem dX0_goOn_23 : decode cX0_goOn 23 = .ok (.iconst 0, 1) := by decide +kernel
theorem dX0_goOn_24 : decode cX0_goOn 24 = .ok (.istore_n 3, 1) := by decide +kernel
theorem dX0_goOn_25 : decode cX0_goOn 25 = .ok (.iload_n 3, 1) := by decide +kernel
theorem dX0_goOn_26 : decode cX0_goOn 26 = .ok (.ifCond .eq 25, 3) := by decide +kernel
theorem dX0_goOn_29 : decode cX0_goOn 29 = .ok (.iload_n 1, 1) := by decide +kernel
theorem dX0_goOn_30 : decode cX0_goOn 30 = .ok (.aload_n 0, 1) := by decide +kernel
theorem dX0_goOn_31 : decode cX0_goOn 31 = .ok (.getfield 22, 3) := by decide +kernel
theorem dX0_goOn_34 : decode cX0_goOn 34 = .ok (.getfield 39, 3) := by decide +kernel
theorem dX0_goOn_37 : decode cX0_goOn 37 = .ok (.imul, 1) := by decide +kernel
theorem dX0_goOn_38 : decode cX0_goOn 38 = .ok (.aload_n 0, 1) := by decide +kernel
theorem dX0_goOn_39 : decode cX0_goOn 39 = .ok (.getfield 18, 3) := by decide +kernel
theorem dX0_goOn_42 : decode cX0_goOn 42 = .ok (.getfield 39, 3) := by decide +kernel
theorem dX0_goOn_45 : decode cX0_goOn 45 = .ok (.iadd, 1) := by decide +kernel
theorem dX0_goOn_46 : decode cX0_goOn 46 = .ok (.bipush 64, 2) := by decide +kernel
theorem dX0_goOn_48 : decode cX0_goOn 48 = .ok (.if_icmp .le 5, 3) := by decide +kernel
theorem dX0_goOn_51 : decode cX0_goOn 51 = .ok (.iconst 0, 1) := by decide +kernel
theorem dX0_goOn_52 : decode cX0_goOn 52 = .ok (.ireturn, 1) := by decide +kernel
theorem dX0_goOn_53 : decode cX0_goOn 53 = .ok (.aload_n 2, 1) := by decide +kernel
theorem dX0_goOn_54 : decode cX0_goOn 54 = .ok (.invokevirtual 32, 3) := by decide +kernel
theorem dX0_goOn_57 : decode cX0_goOn 57 = .ok (.iconst 0, 1) := by decide +kernel
theorem dX0_goOn_58 : decode cX0_goOn 58 = .ok (.istore 4, 2) := by decide +kernel
theorem dX0_goOn_60 : decode cX0_goOn 60 = .ok (.iload 4, 2) := by decide +kernel
theorem dX0_goOn_62 : decode cX0_goOn 62 = .ok (.iload_n 1, 1) := by decide +kernel
theorem dX0_goOn_63 : decode cX0_goOn 63 = .ok (.if_icmp .ge 25, 3) := by decide +kernel
theorem dX0_goOn_66 : decode cX0_goOn 66 = .ok (.aload_n 2, 1) := by decide +kernel
theorem dX0_goOn_67 : decode cX0_goOn 67 = .ok (.aload_n 0, 1) := by decide +kernel
theorem dX0_goOn_68 : decode cX0_goOn 68 = .ok (.getfield 22, 3) := by decide +kernel
theorem dX0_goOn_71 : decode cX0_goOn 71 = .ok (.iconst 0, 1) := by decide +kernel
theorem dX0_goOn_72 : decode cX0_goOn 72 = .ok (.aload_n 0, 1) := by decide +kernel
theorem dX0_goOn_73 : decode cX0_goOn 73 = .ok (.getfield 22, 3) := by decide +kernel
theorem dX0_goOn_76 : decode cX0_goOn 76 = .ok (.getfield 39, 3) := by decide +kernel
theorem dX0_goOn_79 : decode cX0_goOn 79 = .ok (.invokevirtual 42, 3) := by decide +kernel
theorem dX0_goOn_82 : decode cX0_goOn 82 = .ok (.iinc 4 1, 3) := by decide +kernel
theorem dX0_goOn_85 : decode cX0_goOn 85 = .ok (.goto (-25), 3) := by decide +kernel
theorem dX0_goOn_88 : decode cX0_goOn 88 = .ok (.aload_n 2, 1) := by decide +kernel
theorem dX0_goOn_89 : decode cX0_goOn 89 = .ok (.aload_n 0, 1) := by decide +kernel
theorem dX0_goOn_90 : decode cX0_goOn 90 = .ok (.getfield 18, 3) := by decide +kernel
theorem dX0_goOn_93 : decode cX0_goOn 93 = .ok (.iconst 0, 1) := by decide +kernel
theorem dX0_goOn_94 : decode cX0_goOn 94 = .ok (.aload_n 0, 1) := by decide +kernel
theorem dX0_goOn_95 : decode cX0_goOn 95 = .ok (.getfield 18, 3) := by decide +kernel
theorem dX0_goOn_98 : decode cX0_goOn 98 = .ok (.getfield 39, 3) := by decide +kernel
theorem dX0_goOn_101 : decode cX0_goOn 101 = .ok (.invokevirtual 42, 3) := by decide +kernel
theorem dX0_goOn_104 : decode cX0_goOn 104 = .ok (.aload_n 0, 1) := by decide +kernel
theorem dX0_goOn_105 : decode cX0_goOn 105 = .ok (.getfield 18, 3) := by decide +kernel
theorem dX0_goOn_108 : decode cX0_goOn 108 = .ok (.aload_n 0, 1) := by decide +kernel
theorem dX0_goOn_109 : decode cX0_goOn 109 = .ok (.getfield 22, 3) := by decide +kernel
theorem dX0_goOn_112 : decode cX0_goOn 112 = .ok (.invokevirtual 46, 3) := by decide +kernel
theorem dX0_goOn_115 : decode cX0_goOn 115 = .ok (.aload_n 0, 1) := by decide +kernel
theorem dX0_goOn_116 : decode cX0_goOn 116 = .ok (.getfield 22, 3) := by decide +kernel
theorem dX0_goOn_119 : decode cX0_goOn 119 = .ok (.aload_n 2, 1) := by decide +kernel
theorem dX0_goOn_120 : decode cX0_goOn 120 = .ok (.invokevirtual 46, 3) := by decide +kernel
theorem dX0_goOn_123 : decode cX0_goOn 123 = .ok (.aload_n 0, 1) := by decide +kernel
theorem dX0_goOn_124 : decode cX0_goOn 124 = .ok (.getfield 9, 3) := by decide +kernel
theorem dX0_goOn_127 : decode cX0_goOn 127 = .ok (.aload_n 0, 1) := by decide +kernel
theorem dX0_goOn_128 : decode cX0_goOn 128 = .ok (.getfield 28, 3) := by decide +kernel
theorem dX0_goOn_131 : decode cX0_goOn 131 = .ok (.iload_n 1, 1) := by decide +kernel
theorem dX0_goOn_132 : decode cX0_goOn 132 = .ok (.iastore, 1) := by decide +kernel
theorem dX0_goOn_133 : decode cX0_goOn 133 = .ok (.aload_n 0, 1) := by decide +kernel
theorem dX0_goOn_134 : decode cX0_goOn 134 = .ok (.dup, 1) := by decide +kernel
theorem dX0_goOn_135 : decode cX0_goOn 135 = .ok (.getfield 28, 3) := by decide +kernel
theorem dX0_goOn_138 : decode cX0_goOn 138 = .ok (.iconst 1, 1) := by decide +kernel
theorem dX0_goOn_139 : decode cX0_goOn 139 = .ok (.iadd, 1) := by decide +kernel
theorem dX0_goOn_140 : decode cX0_goOn 140 = .ok (.putfield 28, 3) := by decide +kernel
theorem dX0_goOn_143 : decode cX0_goOn 143 = .ok (.iconst 1, 1) := by decide +kernel
theorem dX0_goOn_144 : decode cX0_goOn 144 = .ok (.ireturn, 1) := by decide +kernel
theorem dX0_layByRules_0 : decode cX0_layByRules 0 = .ok (.aload_n 1, 1) := by decide +kernel
theorem dX0_layByRules_1 : decode cX0_layByRules 1 = .ok (.invokevirtual 32, 3) := by decide +kernel
theorem dX0_layByRules_4 : decode cX0_layByRules 4 = .ok (.aload_n 1, 1) := by decide +kernel
theorem dX0_layByRules_5 : decode cX0_layByRules 5 = .ok (.iconst 0, 1) := by decide +kernel
theorem dX0_layByRules_6 : decode cX0_layByRules 6 = .ok (.invokevirtual 35, 3) := by decide +kernel
theorem dX0_layByRules_9 : decode cX0_layByRules 9 = .ok (.aload_n 0, 1) := by decide +kernel
theorem dX0_layByRules_10 : decode cX0_layByRules 10 = .ok (.getfield 28, 3) := by decide +kernel
theorem dX0_layByRules_13 : decode cX0_layByRules 13 = .ok (.iconst 1, 1) := by decide +kernel
theorem dX0_layByRules_14 : decode cX0_layByRules 14 = .ok (.isub, 1) := by decide +kernel
theorem dX0_layByRules_15 : decode cX0_layByRules 15 = .ok (.istore 4, 2) := by decide +kernel
theorem dX0_layByRules_17 : decode cX0_layByRules 17 = .ok (.iload 4, 2) := by decide +kernel
theorem dX0_layByRules_19 : decode cX0_layByRules 19 = .ok (.ifCond .lt 34, 3) := by decide +kernel
theorem dX0_layByRules_22 : decode cX0_layByRules 22 = .ok (.aload_n 3, 1) := by decide +kernel
theorem dX0_layByRules_23 : decode cX0_layByRules 23 = .ok (.aload_n 0, 1) := by decide +kernel
theorem dX0_layByRules_24 : decode cX0_layByRules 24 = .ok (.iload 4, 2) := by decide +kernel
theorem dX0_layByRules_26 : decode cX0_layByRules 26 = .ok (.invokevirtual 50, 3) := by decide +kernel
theorem dX0_layByRules_29 : decode cX0_layByRules 29 = .ok (.invokestatic 54, 3) := by decide +kernel
theorem dX0_layByRules_32 : decode cX0_layByRules 32 = .ok (.iconst 2, 1) := by decide +kernel
theorem dX0_layByRules_33 : decode cX0_layByRules 33 = .ok (.invokevirtual 57, 3) := by decide +kernel
theorem dX0_layByRules_36 : decode cX0_layByRules 36 = .ok (.aload_n 3, 1) := by decide +kernel
theorem dX0_layByRules_37 : decode cX0_layByRules 37 = .ok (.aload_n 1, 1) := by decide +kernel
theorem dX0_layByRules_38 : decode cX0_layByRules 38 = .ok (.aload_n 2, 1) := by decide +kernel
theorem dX0_layByRules_39 : decode cX0_layByRules 39 = .ok (.invokevirtual 62, 3) := by decide +kernel
theorem dX0_layByRules_42 : decode cX0_layByRules 42 = .ok (.aload_n 1, 1) := by decide +kernel
theorem dX0_layByRules_43 : decode cX0_layByRules 43 = .ok (.aload_n 2, 1) := by decide +kernel
theorem dX0_layByRules_44 : decode cX0_layByRules 44 = .ok (.invokevirtual 46, 3) := by decide +kernel
theorem dX0_layByRules_47 : decode cX0_layByRules 47 = .ok (.iinc 4 (-1), 3) := by decide +kernel
theorem dX0_layByRules_50 : decode cX0_layByRules 50 = .ok (.goto (-33), 3) := by decide +kernel
theorem dX0_layByRules_53 : decode cX0_layByRules 53 = .ok (.return_, 1) := by decide +kernel
theorem dX0_codeForA_0 : decode cX0_codeForA 0 = .ok (.iload_n 0, 1) := by decide +kernel
theorem dX0_codeForA_1 : decode cX0_codeForA 1 = .ok (.ifCond .lt 19, 3) := by decide +kernel
theorem dX0_codeForA_4 : decode cX0_codeForA 4 = .ok (.iload_n 0, 1) := by decide +kernel
theorem dX0_codeForA_5 : decode cX0_codeForA 5 = .ok (.getstatic 66, 3) := by decide +kernel
theorem dX0_codeForA_8 : decode cX0_codeForA 8 = .ok (.arraylength, 1) := by decide +kernel
theorem dX0_codeForA_9 : decode cX0_codeForA 9 = .ok (.if_icmp .ge 11, 3) := by decide +kernel
theorem dX0_codeForA_12 : decode cX0_codeForA 12 = .ok (.getstatic 66, 3) := by decide +kernel
theorem dX0_codeForA_15 : decode cX0_codeForA 15 = .ok (.iload_n 0, 1) := by decide +kernel
theorem dX0_codeForA_16 : decode cX0_codeForA 16 = .ok (.iaload, 1) := by decide +kernel
theorem dX0_codeForA_17 : decode cX0_codeForA 17 = .ok (.goto 4, 3) := by decide +kernel
theorem dX0_codeForA_20 : decode cX0_codeForA 20 = .ok (.iconst 0, 1) := by decide +kernel
theorem dX0_codeForA_21 : decode cX0_codeForA 21 = .ok (.ireturn, 1) := by decide +kernel
theorem dX0_layByLine_0 : decode cX0_layByLine 0 = .ok (.iconst 1, 1) := by decide +kernel
theorem dX0_layByLine_1 : decode cX0_layByLine 1 = .ok (.istore_n 2, 1) := by decide +kernel
theorem dX0_layByLine_2 : decode cX0_layByLine 2 = .ok (.iconst 1, 1) := by decide +kernel
theorem dX0_layByLine_3 : decode cX0_layByLine 3 = .ok (.istore_n 3, 1) := by decide +kernel
theorem dX0_layByLine_4 : decode cX0_layByLine 4 = .ok (.iconst 1, 1) := by decide +kernel
theorem dX0_layByLine_5 : decode cX0_layByLine 5 = .ok (.istore 4, 2) := by decide +kernel
theorem dX0_layByLine_7 : decode cX0_layByLine 7 = .ok (.iconst 0, 1) := by decide +kernel
theorem dX0_layByLine_8 : decode cX0_layByLine 8 = .ok (.istore 5, 2) := by decide +kernel
theorem dX0_layByLine_10 : decode cX0_layByLine 10 = .ok (.iconst 0, 1) := by decide +kernel
theorem dX0_layByLine_11 : decode cX0_layByLine 11 = .ok (.istore 6, 2) := by decide +kernel
theorem dX0_layByLine_13 : decode cX0_layByLine 13 = .ok (.iload 6, 2) := by decide +kernel
theorem dX0_layByLine_15 : decode cX0_layByLine 15 = .ok (.aload_n 0, 1) := by decide +kernel
theorem dX0_layByLine_16 : decode cX0_layByLine 16 = .ok (.getfield 28, 3) := by decide +kernel
theorem dX0_layByLine_19 : decode cX0_layByLine 19 = .ok (.if_icmp .ge 49, 3) := by decide +kernel
theorem dX0_layByLine_22 : decode cX0_layByLine 22 = .ok (.aload_n 0, 1) := by decide +kernel
theorem dX0_layByLine_23 : decode cX0_layByLine 23 = .ok (.iload 6, 2) := by decide +kernel
theorem dX0_layByLine_25 : decode cX0_layByLine 25 = .ok (.invokevirtual 50, 3) := by decide +kernel
theorem dX0_layByLine_28 : decode cX0_layByLine 28 = .ok (.istore 7, 2) := by decide +kernel
theorem dX0_layByLine_30 : decode cX0_layByLine 30 = .ok (.iload 7, 2) := by decide +kernel
theorem dX0_layByLine_32 : decode cX0_layByLine 32 = .ok (.iload 4, 2) := by decide +kernel
theorem dX0_layByLine_34 : decode cX0_layByLine 34 = .ok (.imul, 1) := by decide +kernel
theorem dX0_layByLine_35 : decode cX0_layByLine 35 = .ok (.iload_n 2, 1) := by decide +kernel
theorem dX0_layByLine_36 : decode cX0_layByLine 36 = .ok (.iadd, 1) := by decide +kernel
theorem dX0_layByLine_37 : decode cX0_layByLine 37 = .ok (.istore 8, 2) := by decide +kernel
theorem dX0_layByLine_39 : decode cX0_layByLine 39 = .ok (.iload 7, 2) := by decide +kernel
theorem dX0_layByLine_41 : decode cX0_layByLine 41 = .ok (.iload 5, 2) := by decide +kernel
theorem dX0_layByLine_43 : decode cX0_layByLine 43 = .ok (.imul, 1) := by decide +kernel
theorem dX0_layByLine_44 : decode cX0_layByLine 44 = .ok (.iload_n 3, 1) := by decide +kernel
theorem dX0_layByLine_45 : decode cX0_layByLine 45 = .ok (.iadd, 1) := by decide +kernel
theorem dX0_layByLine_46 : decode cX0_layByLine 46 = .ok (.istore 9, 2) := by decide +kernel
theorem dX0_layByLine_48 : decode cX0_layByLine 48 = .ok (.iload 4, 2) := by decide +kernel
theorem dX0_layByLine_50 : decode cX0_layByLine 50 = .ok (.istore_n 2, 1) := by decide +kernel
theorem dX0_layByLine_51 : decode cX0_layByLine 51 = .ok (.iload 5, 2) := by decide +kernel
theorem dX0_layByLine_53 : decode cX0_layByLine 53 = .ok (.istore_n 3, 1) := by decide +kernel
theorem dX0_layByLine_54 : decode cX0_layByLine 54 = .ok (.iload 8, 2) := by decide +kernel
theorem dX0_layByLine_56 : decode cX0_layByLine 56 = .ok (.istore 4, 2) := by decide +kernel
theorem dX0_layByLine_58 : decode cX0_layByLine 58 = .ok (.iload 9, 2) := by decide +kernel
theorem dX0_layByLine_60 : decode cX0_layByLine 60 = .ok (.istore 5, 2) := by decide +kernel
theorem dX0_layByLine_62 : decode cX0_layByLine 62 = .ok (.iinc 6 1, 3) := by decide +kernel
theorem dX0_layByLine_65 : decode cX0_layByLine 65 = .ok (.goto (-52), 3) := by decide +kernel
theorem dX0_layByLine_68 : decode cX0_layByLine 68 = .ok (.aload_n 1, 1) := by decide +kernel
theorem dX0_layByLine_69 : decode cX0_layByLine 69 = .ok (.invokevirtual 32, 3) := by decide +kernel
theorem dX0_layByLine_72 : decode cX0_layByLine 72 = .ok (.iconst 1, 1) := by decide +kernel
theorem dX0_layByLine_73 : decode cX0_layByLine 73 = .ok (.istore 6, 2) := by decide +kernel
theorem dX0_layByLine_75 : decode cX0_layByLine 75 = .ok (.iload 6, 2) := by decide +kernel
theorem dX0_layByLine_77 : decode cX0_layByLine 77 = .ok (.iload 4, 2) := by decide +kernel
theorem dX0_layByLine_79 : decode cX0_layByLine 79 = .ok (.iconst 1, 1) := by decide +kernel
theorem dX0_layByLine_80 : decode cX0_layByLine 80 = .ok (.isub, 1) := by decide +kernel
theorem dX0_layByLine_81 : decode cX0_layByLine 81 = .ok (.if_icmp .ge 23, 3) := by decide +kernel
theorem dX0_layByLine_84 : decode cX0_layByLine 84 = .ok (.aload_n 1, 1) := by decide +kernel
theorem dX0_layByLine_85 : decode cX0_layByLine 85 = .ok (.iload 4, 2) := by decide +kernel
theorem dX0_layByLine_87 : decode cX0_layByLine 87 = .ok (.iload 5, 2) := by decide +kernel
theorem dX0_layByLine_89 : decode cX0_layByLine 89 = .ok (.iconst 0, 1) := by decide +kernel
theorem dX0_layByLine_90 : decode cX0_layByLine 90 = .ok (.iload 6, 2) := by decide +kernel
theorem dX0_layByLine_92 : decode cX0_layByLine 92 = .ok (.invokestatic 69, 3) := by decide +kernel
theorem dX0_layByLine_95 : decode cX0_layByLine 95 = .ok (.invokevirtual 35, 3) := by decide +kernel
theorem dX0_layByLine_98 : decode cX0_layByLine 98 = .ok (.iinc 6 1, 3) := by decide +kernel
theorem dX0_layByLine_101 : decode cX0_layByLine 101 = .ok (.goto (-26), 3) := by decide +kernel
theorem dX0_layByLine_104 : decode cX0_layByLine 104 = .ok (.aload_n 0, 1) := by decide +kernel
theorem dX0_layByLine_105 : decode cX0_layByLine 105 = .ok (.aload_n 1, 1) := by decide +kernel
theorem dX0_layByLine_106 : decode cX0_layByLine 106 = .ok (.invokevirtual 73, 3) := by decide +kernel
theorem dX0_layByLine_109 : decode cX0_layByLine 109 = .ok (.return_, 1) := by decide +kernel
theorem dX0_addLineEnd_0 : decode cX0_addLineEnd 0 = .ok (.aload_n 0, 1) := by decide +kernel
theorem dX0_addLineEnd_1 : decode cX0_addLineEnd 1 = .ok (.getfield 28, 3) := by decide +kernel
theorem dX0_addLineEnd_4 : decode cX0_addLineEnd 4 = .ok (.iconst 2, 1) := by decide +kernel
theorem dX0_addLineEnd_5 : decode cX0_addLineEnd 5 = .ok (.irem, 1) := by decide +kernel
theorem dX0_addLineEnd_6 : decode cX0_addLineEnd 6 = .ok (.iconst 1, 1) := by decide +kernel
theorem dX0_addLineEnd_7 : decode cX0_addLineEnd 7 = .ok (.if_icmp .ne 7, 3) := by decide +kernel
theorem dX0_addLineEnd_10 : decode cX0_addLineEnd 10 = .ok (.iconst 1, 1) := by decide +kernel
theorem dX0_addLineEnd_11 : decode cX0_addLineEnd 11 = .ok (.goto 4, 3) := by decide +kernel
theorem dX0_addLineEnd_14 : decode cX0_addLineEnd 14 = .ok (.iconst 0, 1) := by decide +kernel
theorem dX0_addLineEnd_15 : decode cX0_addLineEnd 15 = .ok (.istore_n 2, 1) := by decide +kernel
theorem dX0_addLineEnd_16 : decode cX0_addLineEnd 16 = .ok (.aload_n 0, 1) := by decide +kernel
theorem dX0_addLineEnd_17 : decode cX0_addLineEnd 17 = .ok (.getfield 28, 3) := by decide +kernel
theorem dX0_addLineEnd_20 : decode cX0_addLineEnd 20 = .ok (.ifCond .le 16, 3) := by decide +kernel
theorem dX0_addLineEnd_23 : decode cX0_addLineEnd 23 = .ok (.aload_n 1, 1) := by decide +kernel
theorem dX0_addLineEnd_24 : decode cX0_addLineEnd 24 = .ok (.iload_n 2, 1) := by decide +kernel
theorem dX0_addLineEnd_25 : decode cX0_addLineEnd 25 = .ok (.ifCond .ne 7, 3) := by decide +kernel
theorem dX0_addLineEnd_28 : decode cX0_addLineEnd 28 = .ok (.iconst 1, 1) := by decide +kernel
theorem dX0_addLineEnd_29 : decode cX0_addLineEnd 29 = .ok (.goto 4, 3) := by decide +kernel
theorem dX0_addLineEnd_32 : decode cX0_addLineEnd 32 = .ok (.iconst 0, 1) := by decide +kernel
theorem dX0_addLineEnd_33 : decode cX0_addLineEnd 33 = .ok (.invokevirtual 35, 3) := by decide +kernel
theorem dX0_addLineEnd_36 : decode cX0_addLineEnd 36 = .ok (.aload_n 1, 1) := by decide +kernel
theorem dX0_addLineEnd_37 : decode cX0_addLineEnd 37 = .ok (.iload_n 2, 1) := by decide +kernel
theorem dX0_addLineEnd_38 : decode cX0_addLineEnd 38 = .ok (.invokevirtual 35, 3) := by decide +kernel
theorem dX0_addLineEnd_41 : decode cX0_addLineEnd 41 = .ok (.return_, 1) := by decide +kernel
theorem dX1_isUpOnRing_0 : decode cX1_isUpOnRing 0 = .ok (.aload_n 0, 1) := by decide +kernel
theorem dX1_isUpOnRing_1 : decode cX1_isUpOnRing 1 = .ok (.iload_n 1, 1) := by decide +kernel
theorem dX1_isUpOnRing_2 : decode cX1_isUpOnRing 2 = .ok (.aload_n 0, 1) := by decide +kernel
theorem dX1_isUpOnRing_3 : decode cX1_isUpOnRing 3 = .ok (.getfield 12, 3) := by decide +kernel
theorem dX1_isUpOnRing_6 : decode cX1_isUpOnRing 6 = .ok (.if_icmp .ge 7, 3) := by decide +kernel
theorem dX1_isUpOnRing_9 : decode cX1_isUpOnRing 9 = .ok (.iload_n 1, 1) := by decide +kernel
theorem dX1_isUpOnRing_10 : decode cX1_isUpOnRing 10 = .ok (.goto 9, 3) := by decide +kernel
theorem dX1_isUpOnRing_13 : decode cX1_isUpOnRing 13 = .ok (.iload_n 1, 1) := by decide +kernel
theorem dX1_isUpOnRing_14 : decode cX1_isUpOnRing 14 = .ok (.aload_n 0, 1) := by decide +kernel
theorem dX1_isUpOnRing_15 : decode cX1_isUpOnRing 15 = .ok (.getfield 12, 3) := by decide +kernel
theorem dX1_isUpOnRing_18 : decode cX1_isUpOnRing 18 = .ok (.isub, 1) := by decide +kernel
theorem dX1_isUpOnRing_19 : decode cX1_isUpOnRing 19 = .ok (.invokevirtual 18, 3) := by decide +kernel
theorem dX1_isUpOnRing_22 : decode cX1_isUpOnRing 22 = .ok (.ireturn, 1) := by decide +kernel
theorem dX1_upsInPart_0 : decode cX1_upsInPart 0 = .ok (.iconst 0, 1) := by decide +kernel
theorem dX1_upsInPart_1 : decode cX1_upsInPart 1 = .ok (.istore_n 3, 1) := by decide +kernel
theorem dX1_upsInPart_2 : decode cX1_upsInPart 2 = .ok (.iload_n 1, 1) := by decide +kernel
theorem dX1_upsInPart_3 : decode cX1_upsInPart 3 = .ok (.istore 4, 2) := by decide +kernel
theorem dX1_upsInPart_5 : decode cX1_upsInPart 5 = .ok (.iload 4, 2) := by decide +kernel
theorem dX1_upsInPart_7 : decode cX1_upsInPart 7 = .ok (.iload_n 1, 1) := by decide +kernel
theorem dX1_upsInPart_8 : decode cX1_upsInPart 8 = .ok (.iload_n 2, 1) := by decide +kernel
theorem dX1_upsInPart_9 : decode cX1_upsInPart 9 = .ok (.iadd, 1) := by decide +kernel
theorem dX1_upsInPart_10 : decode cX1_upsInPart 10 = .ok (.if_icmp .ge 21, 3) := by decide +kernel
theorem dX1_upsInPart_13 : decode cX1_upsInPart 13 = .ok (.aload_n 0, 1) := by decide +kernel
theorem dX1_upsInPart_14 : decode cX1_upsInPart 14 = .ok (.iload 4, 2) := by decide +kernel
theorem dX1_upsInPart_16 : decode cX1_upsInPart 16 = .ok (.invokestatic 30, 3) := by decide +kernel
theorem dX1_upsInPart_19 : decode cX1_upsInPart 19 = .ok (.ifCond .eq 6, 3) := by decide +kernel
theorem dX1_upsInPart_22 : decode cX1_upsInPart 22 = .ok (.iinc 3 1, 3) := by decide +kernel
theorem dX1_upsInPart_25 : decode cX1_upsInPart 25 = .ok (.iinc 4 1, 3) := by decide +kernel
theorem dX1_upsInPart_28 : decode cX1_upsInPart 28 = .ok (.goto (-23), 3) := by decide +kernel
theorem dX1_upsInPart_31 : decode cX1_upsInPart 31 = .ok (.iload_n 3, 1) := by decide +kernel
theorem dX1_upsInPart_32 : decode cX1_upsInPart 32 = .ok (.ireturn, 1) := by decide +kernel
theorem dX1_upsOf_0 : decode cX1_upsOf 0 = .ok (.iconst 0, 1) := by decide +kernel
theorem dX1_upsOf_1 : decode cX1_upsOf 1 = .ok (.istore_n 1, 1) := by decide +kernel
theorem dX1_upsOf_2 : decode cX1_upsOf 2 = .ok (.iconst 0, 1) := by decide +kernel
theorem dX1_upsOf_3 : decode cX1_upsOf 3 = .ok (.istore_n 2, 1) := by decide +kernel
theorem dX1_upsOf_4 : decode cX1_upsOf 4 = .ok (.iload_n 2, 1) := by decide +kernel
theorem dX1_upsOf_5 : decode cX1_upsOf 5 = .ok (.aload_n 0, 1) := by decide +kernel
theorem dX1_upsOf_6 : decode cX1_upsOf 6 = .ok (.getfield 12, 3) := by decide +kernel
theorem dX1_upsOf_9 : decode cX1_upsOf 9 = .ok (.if_icmp .ge 20, 3) := by decide +kernel
theorem dX1_upsOf_12 : decode cX1_upsOf 12 = .ok (.aload_n 0, 1) := by decide +kernel
theorem dX1_upsOf_13 : decode cX1_upsOf 13 = .ok (.iload_n 2, 1) := by decide +kernel
theorem dX1_upsOf_14 : decode cX1_upsOf 14 = .ok (.invokevirtual 18, 3) := by decide +kernel
theorem dX1_upsOf_17 : decode cX1_upsOf 17 = .ok (.ifCond .eq 6, 3) := by decide +kernel
theorem dX1_upsOf_20 : decode cX1_upsOf 20 = .ok (.iinc 1 1, 3) := by decide +kernel
theorem dX1_upsOf_23 : decode cX1_upsOf 23 = .ok (.iinc 2 1, 3) := by decide +kernel
theorem dX1_upsOf_26 : decode cX1_upsOf 26 = .ok (.goto (-22), 3) := by decide +kernel
theorem dX1_upsOf_29 : decode cX1_upsOf 29 = .ok (.iload_n 1, 1) := by decide +kernel
theorem dX1_upsOf_30 : decode cX1_upsOf 30 = .ok (.ireturn, 1) := by decide +kernel
theorem dX1_standsAt_0 : decode cX1_standsAt 0 = .ok (.iload_n 1, 1) := by decide +kernel
theorem dX1_standsAt_1 : decode cX1_standsAt 1 = .ok (.aload_n 2, 1) := by decide +kernel
theorem dX1_standsAt_2 : decode cX1_standsAt 2 = .ok (.getfield 12, 3) := by decide +kernel
theorem dX1_standsAt_5 : decode cX1_standsAt 5 = .ok (.iadd, 1) := by decide +kernel
theorem dX1_standsAt_6 : decode cX1_standsAt 6 = .ok (.aload_n 0, 1) := by decide +kernel
theorem dX1_standsAt_7 : decode cX1_standsAt 7 = .ok (.getfield 12, 3) := by decide +kernel
theorem dX1_standsAt_10 : decode cX1_standsAt 10 = .ok (.if_icmp .le 5, 3) := by decide +kernel
theorem dX1_standsAt_13 : decode cX1_standsAt 13 = .ok (.iconst 0, 1) := by decide +kernel
theorem dX1_standsAt_14 : decode cX1_standsAt 14 = .ok (.ireturn, 1) := by decide +kernel
theorem dX1_standsAt_15 : decode cX1_standsAt 15 = .ok (.iconst 0, 1) := by decide +kernel
theorem dX1_standsAt_16 : decode cX1_standsAt 16 = .ok (.istore_n 3, 1) := by decide +kernel
theorem dX1_standsAt_17 : decode cX1_standsAt 17 = .ok (.iload_n 3, 1) := by decide +kernel
theorem dX1_standsAt_18 : decode cX1_standsAt 18 = .ok (.aload_n 2, 1) := by decide +kernel
theorem dX1_standsAt_19 : decode cX1_standsAt 19 = .ok (.getfield 12, 3) := by decide +kernel
theorem dX1_standsAt_22 : decode cX1_standsAt 22 = .ok (.if_icmp .ge 26, 3) := by decide +kernel
theorem dX1_standsAt_25 : decode cX1_standsAt 25 = .ok (.aload_n 0, 1) := by decide +kernel
theorem dX1_standsAt_26 : decode cX1_standsAt 26 = .ok (.iload_n 1, 1) := by decide +kernel
theorem dX1_standsAt_27 : decode cX1_standsAt 27 = .ok (.iload_n 3, 1) := by decide +kernel
theorem dX1_standsAt_28 : decode cX1_standsAt 28 = .ok (.iadd, 1) := by decide +kernel
theorem dX1_standsAt_29 : decode cX1_standsAt 29 = .ok (.invokevirtual 18, 3) := by decide +kernel
theorem dX1_standsAt_32 : decode cX1_standsAt 32 = .ok (.aload_n 2, 1) := by decide +kernel
theorem dX1_standsAt_33 : decode cX1_standsAt 33 = .ok (.iload_n 3, 1) := by decide +kernel
theorem dX1_standsAt_34 : decode cX1_standsAt 34 = .ok (.invokevirtual 18, 3) := by decide +kernel
theorem dX1_standsAt_37 : decode cX1_standsAt 37 = .ok (.if_icmp .eq 5, 3) := by decide +kernel
theorem dX1_standsAt_40 : decode cX1_standsAt 40 = .ok (.iconst 0, 1) := by decide +kernel
theorem dX1_standsAt_41 : decode cX1_standsAt 41 = .ok (.ireturn, 1) := by decide +kernel
theorem dX1_standsAt_42 : decode cX1_standsAt 42 = .ok (.iinc 3 1, 3) := by decide +kernel
theorem dX1_standsAt_45 : decode cX1_standsAt 45 = .ok (.goto (-28), 3) := by decide +kernel
theorem dX1_standsAt_48 : decode cX1_standsAt 48 = .ok (.iconst 1, 1) := by decide +kernel
theorem dX1_standsAt_49 : decode cX1_standsAt 49 = .ok (.ireturn, 1) := by decide +kernel
theorem dX1_orderOf_0 : decode cX1_orderOf 0 = .ok (.aload_n 0, 1) := by decide +kernel
theorem dX1_orderOf_1 : decode cX1_orderOf 1 = .ok (.getfield 12, 3) := by decide +kernel
theorem dX1_orderOf_4 : decode cX1_orderOf 4 = .ok (.aload_n 1, 1) := by decide +kernel
theorem dX1_orderOf_5 : decode cX1_orderOf 5 = .ok (.getfield 12, 3) := by decide +kernel
theorem dX1_orderOf_8 : decode cX1_orderOf 8 = .ok (.invokestatic 36, 3) := by decide +kernel
theorem dX1_orderOf_11 : decode cX1_orderOf 11 = .ok (.istore_n 2, 1) := by decide +kernel
theorem dX1_orderOf_12 : decode cX1_orderOf 12 = .ok (.iconst 0, 1) := by decide +kernel
theorem dX1_orderOf_13 : decode cX1_orderOf 13 = .ok (.istore_n 3, 1) := by decide +kernel
theorem dX1_orderOf_14 : decode cX1_orderOf 14 = .ok (.iload_n 3, 1) := by decide +kernel
theorem dX1_orderOf_15 : decode cX1_orderOf 15 = .ok (.iload_n 2, 1) := by decide +kernel
theorem dX1_orderOf_16 : decode cX1_orderOf 16 = .ok (.if_icmp .ge 36, 3) := by decide +kernel
theorem dX1_orderOf_19 : decode cX1_orderOf 19 = .ok (.aload_n 0, 1) := by decide +kernel
theorem dX1_orderOf_20 : decode cX1_orderOf 20 = .ok (.iload_n 3, 1) := by decide +kernel
theorem dX1_orderOf_21 : decode cX1_orderOf 21 = .ok (.invokevirtual 18, 3) := by decide +kernel
theorem dX1_orderOf_24 : decode cX1_orderOf 24 = .ok (.aload_n 1, 1) := by decide +kernel
theorem dX1_orderOf_25 : decode cX1_orderOf 25 = .ok (.iload_n 3, 1) := by decide +kernel
theorem dX1_orderOf_26 : decode cX1_orderOf 26 = .ok (.invokevirtual 18, 3) := by decide +kernel
theorem dX1_orderOf_29 : decode cX1_orderOf 29 = .ok (.if_icmp .eq 17, 3) := by decide +kernel
theorem dX1_orderOf_32 : decode cX1_orderOf 32 = .ok (.aload_n 1, 1) := by decide +kernel
theorem dX1_orderOf_33 : decode cX1_orderOf 33 = .ok (.iload_n 3, 1) := by decide +kernel
theorem dX1_orderOf_34 : decode cX1_orderOf 34 = .ok (.invokevirtual 18, 3) := by decide +kernel
theorem dX1_orderOf_37 : decode cX1_orderOf 37 = .ok (.ifCond .eq 7, 3) := by decide +kernel
theorem dX1_orderOf_40 : decode cX1_orderOf 40 = .ok (.iconst (-1), 1) := by decide +kernel
theorem dX1_orderOf_41 : decode cX1_orderOf 41 = .ok (.goto 4, 3) := by decide +kernel
theorem dX1_orderOf_44 : decode cX1_orderOf 44 = .ok (.iconst 1, 1) := by decide +kernel
theorem dX1_orderOf_45 : decode cX1_orderOf 45 = .ok (.ireturn, 1) := by decide +kernel
theorem dX1_orderOf_46 : decode cX1_orderOf 46 = .ok (.iinc 3 1, 3) := by decide +kernel
theorem dX1_orderOf_49 : decode cX1_orderOf 49 = .ok (.goto (-35), 3) := by decide +kernel
theorem dX1_orderOf_52 : decode cX1_orderOf 52 = .ok (.aload_n 0, 1) := by decide +kernel
theorem dX1_orderOf_53 : decode cX1_orderOf 53 = .ok (.getfield 12, 3) := by decide +kernel
theorem dX1_orderOf_56 : decode cX1_orderOf 56 = .ok (.aload_n 1, 1) := by decide +kernel
theorem dX1_orderOf_57 : decode cX1_orderOf 57 = .ok (.getfield 12, 3) := by decide +kernel
theorem dX1_orderOf_60 : decode cX1_orderOf 60 = .ok (.invokestatic 42, 3) := by decide +kernel
theorem dX1_orderOf_63 : decode cX1_orderOf 63 = .ok (.ireturn, 1) := by decide +kernel
theorem dX1_ringOrder_0 : decode cX1_ringOrder 0 = .ok (.iconst 0, 1) := by decide +kernel
theorem dX1_ringOrder_1 : decode cX1_ringOrder 1 = .ok (.istore 4, 2) := by decide +kernel
theorem dX1_ringOrder_3 : decode cX1_ringOrder 3 = .ok (.iload 4, 2) := by decide +kernel
theorem dX1_ringOrder_5 : decode cX1_ringOrder 5 = .ok (.iload_n 3, 1) := by decide +kernel
theorem dX1_ringOrder_6 : decode cX1_ringOrder 6 = .ok (.if_icmp .ge 43, 3) := by decide +kernel
theorem dX1_ringOrder_9 : decode cX1_ringOrder 9 = .ok (.aload_n 0, 1) := by decide +kernel
theorem dX1_ringOrder_10 : decode cX1_ringOrder 10 = .ok (.iload_n 1, 1) := by decide +kernel
theorem dX1_ringOrder_11 : decode cX1_ringOrder 11 = .ok (.iload 4, 2) := by decide +kernel
theorem dX1_ringOrder_13 : decode cX1_ringOrder 13 = .ok (.iadd, 1) := by decide +kernel
theorem dX1_ringOrder_14 : decode cX1_ringOrder 14 = .ok (.invokestatic 30, 3) := by decide +kernel
theorem dX1_ringOrder_17 : decode cX1_ringOrder 17 = .ok (.istore 5, 2) := by decide +kernel
theorem dX1_ringOrder_19 : decode cX1_ringOrder 19 = .ok (.iload 5, 2) := by decide +kernel
theorem dX1_ringOrder_21 : decode cX1_ringOrder 21 = .ok (.aload_n 0, 1) := by decide +kernel
theorem dX1_ringOrder_22 : decode cX1_ringOrder 22 = .ok (.iload_n 2, 1) := by decide +kernel
theorem dX1_ringOrder_23 : decode cX1_ringOrder 23 = .ok (.iload 4, 2) := by decide +kernel
theorem dX1_ringOrder_25 : decode cX1_ringOrder 25 = .ok (.iadd, 1) := by decide +kernel
theorem dX1_ringOrder_26 : decode cX1_ringOrder 26 = .ok (.invokestatic 30, 3) := by decide +kernel
theorem dX1_ringOrder_29 : decode cX1_ringOrder 29 = .ok (.if_icmp .eq 14, 3) := by decide +kernel
theorem dX1_ringOrder_32 : decode cX1_ringOrder 32 = .ok (.iload 5, 2) := by decide +kernel
theorem dX1_ringOrder_34 : decode cX1_ringOrder 34 = .ok (.ifCond .eq 7, 3) := by decide +kernel
theorem dX1_ringOrder_37 : decode cX1_ringOrder 37 = .ok (.iconst 1, 1) := by decide +kernel
theorem dX1_ringOrder_38 : decode cX1_ringOrder 38 = .ok (.goto 4, 3) := by decide +kernel
theorem dX1_ringOrder_41 : decode cX1_ringOrder 41 = .ok (.iconst (-1), 1) := by decide +kernel
theorem dX1_ringOrder_42 : decode cX1_ringOrder 42 = .ok (.ireturn, 1) := by decide +kernel
theorem dX1_ringOrder_43 : decode cX1_ringOrder 43 = .ok (.iinc 4 1, 3) := by decide +kernel
theorem dX1_ringOrder_46 : decode cX1_ringOrder 46 = .ok (.goto (-43), 3) := by decide +kernel
theorem dX1_ringOrder_49 : decode cX1_ringOrder 49 = .ok (.iconst 0, 1) := by decide +kernel
theorem dX1_ringOrder_50 : decode cX1_ringOrder 50 = .ok (.ireturn, 1) := by decide +kernel
theorem dX1_isMirroredPart_0 : decode cX1_isMirroredPart 0 = .ok (.iconst 0, 1) := by decide +kernel
theorem dX1_isMirroredPart_1 : decode cX1_isMirroredPart 1 = .ok (.istore_n 3, 1) := by decide +kernel
theorem dX1_isMirroredPart_2 : decode cX1_isMirroredPart 2 = .ok (.iload_n 3, 1) := by decide +kernel
theorem dX1_isMirroredPart_3 : decode cX1_isMirroredPart 3 = .ok (.iload_n 2, 1) := by decide +kernel
theorem dX1_isMirroredPart_4 : decode cX1_isMirroredPart 4 = .ok (.iconst 2, 1) := by decide +kernel
theorem dX1_isMirroredPart_5 : decode cX1_isMirroredPart 5 = .ok (.idiv, 1) := by decide +kernel
theorem dX1_isMirroredPart_6 : decode cX1_isMirroredPart 6 = .ok (.if_icmp .ge 32, 3) := by decide +kernel
theorem dX1_isMirroredPart_9 : decode cX1_isMirroredPart 9 = .ok (.aload_n 0, 1) := by decide +kernel
theorem dX1_isMirroredPart_10 : decode cX1_isMirroredPart 10 = .ok (.iload_n 1, 1) := by decide +kernel
theorem dX1_isMirroredPart_11 : decode cX1_isMirroredPart 11 = .ok (.iload_n 3, 1) := by decide +kernel
theorem dX1_isMirroredPart_12 : decode cX1_isMirroredPart 12 = .ok (.iadd, 1) := by decide +kernel
theorem dX1_isMirroredPart_13 : decode cX1_isMirroredPart 13 = .ok (.invokevirtual 18, 3) := by decide +kernel
theorem dX1_isMirroredPart_16 : decode cX1_isMirroredPart 16 = .ok (.aload_n 0, 1) := by decide +kernel
theorem dX1_isMirroredPart_17 : decode cX1_isMirroredPart 17 = .ok (.iload_n 1, 1) := by decide +kernel
theorem dX1_isMirroredPart_18 : decode cX1_isMirroredPart 18 = .ok (.iload_n 2, 1) := by decide +kernel
theorem dX1_isMirroredPart_19 : decode cX1_isMirroredPart 19 = .ok (.iadd, 1) := by decide +kernel
theorem dX1_isMirroredPart_20 : decode cX1_isMirroredPart 20 = .ok (.iconst 1, 1) := by decide +kernel
theorem dX1_isMirroredPart_21 : decode cX1_isMirroredPart 21 = .ok (.isub, 1) := by decide +kernel
theorem dX1_isMirroredPart_22 : decode cX1_isMirroredPart 22 = .ok (.iload_n 3, 1) := by decide +kernel
theorem dX1_isMirroredPart_23 : decode cX1_isMirroredPart 23 = .ok (.isub, 1) := by decide +kernel
theorem dX1_isMirroredPart_24 : decode cX1_isMirroredPart 24 = .ok (.invokevirtual 18, 3) := by decide +kernel
theorem dX1_isMirroredPart_27 : decode cX1_isMirroredPart 27 = .ok (.if_icmp .eq 5, 3) := by decide +kernel
theorem dX1_isMirroredPart_30 : decode cX1_isMirroredPart 30 = .ok (.iconst 0, 1) := by decide +kernel
theorem dX1_isMirroredPart_31 : decode cX1_isMirroredPart 31 = .ok (.ireturn, 1) := by decide +kernel
theorem dX1_isMirroredPart_32 : decode cX1_isMirroredPart 32 = .ok (.iinc 3 1, 3) := by decide +kernel
theorem dX1_isMirroredPart_35 : decode cX1_isMirroredPart 35 = .ok (.goto (-33), 3) := by decide +kernel
theorem dX1_isMirroredPart_38 : decode cX1_isMirroredPart 38 = .ok (.iconst 1, 1) := by decide +kernel
theorem dX1_isMirroredPart_39 : decode cX1_isMirroredPart 39 = .ok (.ireturn, 1) := by decide +kernel
theorem dX1_beginnings_0 : decode cX1_beginnings 0 = .ok (.iload_n 2, 1) := by decide +kernel
theorem dX1_beginnings_1 : decode cX1_beginnings 1 = .ok (.ifCond .eq 14, 3) := by decide +kernel
theorem dX1_beginnings_4 : decode cX1_beginnings 4 = .ok (.aload_n 0, 1) := by decide +kernel
theorem dX1_beginnings_5 : decode cX1_beginnings 5 = .ok (.getfield 12, 3) := by decide +kernel
theorem dX1_beginnings_8 : decode cX1_beginnings 8 = .ok (.iconst 1, 1) := by decide +kernel
theorem dX1_beginnings_9 : decode cX1_beginnings 9 = .ok (.invokestatic 47, 3) := by decide +kernel
theorem dX1_beginnings_12 : decode cX1_beginnings 12 = .ok (.goto 11, 3) := by decide +kernel
theorem dX1_beginnings_15 : decode cX1_beginnings 15 = .ok (.aload_n 0, 1) := by decide +kernel
theorem dX1_beginnings_16 : decode cX1_beginnings 16 = .ok (.getfield 12, 3) := by decide +kernel
theorem dX1_beginnings_19 : decode cX1_beginnings 19 = .ok (.iload_n 1, 1) := by decide +kernel
theorem dX1_beginnings_20 : decode cX1_beginnings 20 = .ok (.isub, 1) := by decide +kernel
theorem dX1_beginnings_21 : decode cX1_beginnings 21 = .ok (.iconst 1, 1) := by decide +kernel
theorem dX1_beginnings_22 : decode cX1_beginnings 22 = .ok (.iadd, 1) := by decide +kernel
theorem dX1_beginnings_23 : decode cX1_beginnings 23 = .ok (.ireturn, 1) := by decide +kernel
theorem dX1_spreadOf_0 : decode cX1_spreadOf 0 = .ok (.iconst 0, 1) := by decide +kernel
theorem dX1_spreadOf_1 : decode cX1_spreadOf 1 = .ok (.istore_n 3, 1) := by decide +kernel
theorem dX1_spreadOf_2 : decode cX1_spreadOf 2 = .ok (.iload_n 1, 1) := by decide +kernel
theorem dX1_spreadOf_3 : decode cX1_spreadOf 3 = .ok (.istore 4, 2) := by decide +kernel
theorem dX1_spreadOf_5 : decode cX1_spreadOf 5 = .ok (.aload_n 0, 1) := by decide +kernel
theorem dX1_spreadOf_6 : decode cX1_spreadOf 6 = .ok (.iload_n 1, 1) := by decide +kernel
theorem dX1_spreadOf_7 : decode cX1_spreadOf 7 = .ok (.iload_n 2, 1) := by decide +kernel
theorem dX1_spreadOf_8 : decode cX1_spreadOf 8 = .ok (.invokestatic 50, 3) := by decide +kernel
theorem dX1_spreadOf_11 : decode cX1_spreadOf 11 = .ok (.istore 5, 2) := by decide +kernel
theorem dX1_spreadOf_13 : decode cX1_spreadOf 13 = .ok (.iconst 0, 1) := by decide +kernel
theorem dX1_spreadOf_14 : decode cX1_spreadOf 14 = .ok (.istore 6, 2) := by decide +kernel
theorem dX1_spreadOf_16 : decode cX1_spreadOf 16 = .ok (.iload 6, 2) := by decide +kernel
theorem dX1_spreadOf_18 : decode cX1_spreadOf 18 = .ok (.iload 5, 2) := by decide +kernel
theorem dX1_spreadOf_20 : decode cX1_spreadOf 20 = .ok (.if_icmp .ge 34, 3) := by decide +kernel
theorem dX1_spreadOf_23 : decode cX1_spreadOf 23 = .ok (.aload_n 0, 1) := by decide +kernel
theorem dX1_spreadOf_24 : decode cX1_spreadOf 24 = .ok (.iload 6, 2) := by decide +kernel
theorem dX1_spreadOf_26 : decode cX1_spreadOf 26 = .ok (.iload_n 1, 1) := by decide +kernel
theorem dX1_spreadOf_27 : decode cX1_spreadOf 27 = .ok (.invokestatic 54, 3) := by decide +kernel
theorem dX1_spreadOf_30 : decode cX1_spreadOf 30 = .ok (.istore 7, 2) := by decide +kernel
theorem dX1_spreadOf_32 : decode cX1_spreadOf 32 = .ok (.iload_n 3, 1) := by decide +kernel
theorem dX1_spreadOf_33 : decode cX1_spreadOf 33 = .ok (.iload 7, 2) := by decide +kernel
theorem dX1_spreadOf_35 : decode cX1_spreadOf 35 = .ok (.invokestatic 47, 3) := by decide +kernel
theorem dX1_spreadOf_38 : decode cX1_spreadOf 38 = .ok (.istore_n 3, 1) := by decide +kernel
theorem dX1_spreadOf_39 : decode cX1_spreadOf 39 = .ok (.iload 4, 2) := by decide +kernel
theorem dX1_spreadOf_41 : decode cX1_spreadOf 41 = .ok (.iload 7, 2) := by decide +kernel
theorem dX1_spreadOf_43 : decode cX1_spreadOf 43 = .ok (.invokestatic 36, 3) := by decide +kernel
theorem dX1_spreadOf_46 : decode cX1_spreadOf 46 = .ok (.istore 4, 2) := by decide +kernel
theorem dX1_spreadOf_48 : decode cX1_spreadOf 48 = .ok (.iinc 6 1, 3) := by decide +kernel
theorem dX1_spreadOf_51 : decode cX1_spreadOf 51 = .ok (.goto (-35), 3) := by decide +kernel
theorem dX1_spreadOf_54 : decode cX1_spreadOf 54 = .ok (.iload_n 3, 1) := by decide +kernel
theorem dX1_spreadOf_55 : decode cX1_spreadOf 55 = .ok (.iload 4, 2) := by decide +kernel
theorem dX1_spreadOf_57 : decode cX1_spreadOf 57 = .ok (.isub, 1) := by decide +kernel
theorem dX1_spreadOf_58 : decode cX1_spreadOf 58 = .ok (.ireturn, 1) := by decide +kernel
theorem dX1_isReadEarlier_0 : decode cX1_isReadEarlier 0 = .ok (.iconst 0, 1) := by decide +kernel
theorem dX1_isReadEarlier_1 : decode cX1_isReadEarlier 1 = .ok (.istore_n 3, 1) := by decide +kernel
theorem dX1_isReadEarlier_2 : decode cX1_isReadEarlier 2 = .ok (.iload_n 3, 1) := by decide +kernel
theorem dX1_isReadEarlier_3 : decode cX1_isReadEarlier 3 = .ok (.iload_n 1, 1) := by decide +kernel
theorem dX1_isReadEarlier_4 : decode cX1_isReadEarlier 4 = .ok (.if_icmp .ge 21, 3) := by decide +kernel
theorem dX1_isReadEarlier_7 : decode cX1_isReadEarlier 7 = .ok (.aload_n 0, 1) := by decide +kernel
theorem dX1_isReadEarlier_8 : decode cX1_isReadEarlier 8 = .ok (.iload_n 3, 1) := by decide +kernel
theorem dX1_isReadEarlier_9 : decode cX1_isReadEarlier 9 = .ok (.iload_n 1, 1) := by decide +kernel
theorem dX1_isReadEarlier_10 : decode cX1_isReadEarlier 10 = .ok (.iload_n 2, 1) := by decide +kernel
theorem dX1_isReadEarlier_11 : decode cX1_isReadEarlier 11 = .ok (.invokestatic 58, 3) := by decide +kernel
theorem dX1_isReadEarlier_14 : decode cX1_isReadEarlier 14 = .ok (.ifCond .ne 5, 3) := by decide +kernel
theorem dX1_isReadEarlier_17 : decode cX1_isReadEarlier 17 = .ok (.iconst 1, 1) := by decide +kernel
theorem dX1_isReadEarlier_18 : decode cX1_isReadEarlier 18 = .ok (.ireturn, 1) := by decide +kernel
theorem dX1_isReadEarlier_19 : decode cX1_isReadEarlier 19 = .ok (.iinc 3 1, 3) := by decide +kernel
theorem dX1_isReadEarlier_22 : decode cX1_isReadEarlier 22 = .ok (.goto (-20), 3) := by decide +kernel
theorem dX1_isReadEarlier_25 : decode cX1_isReadEarlier 25 = .ok (.iconst 0, 1) := by decide +kernel
theorem dX1_isReadEarlier_26 : decode cX1_isReadEarlier 26 = .ok (.ireturn, 1) := by decide +kernel
theorem dX1_kindsOf_0 : decode cX1_kindsOf 0 = .ok (.iconst 0, 1) := by decide +kernel
theorem dX1_kindsOf_1 : decode cX1_kindsOf 1 = .ok (.istore_n 3, 1) := by decide +kernel
theorem dX1_kindsOf_2 : decode cX1_kindsOf 2 = .ok (.aload_n 0, 1) := by decide +kernel
theorem dX1_kindsOf_3 : decode cX1_kindsOf 3 = .ok (.iload_n 1, 1) := by decide +kernel
theorem dX1_kindsOf_4 : decode cX1_kindsOf 4 = .ok (.iload_n 2, 1) := by decide +kernel
theorem dX1_kindsOf_5 : decode cX1_kindsOf 5 = .ok (.invokestatic 50, 3) := by decide +kernel
theorem dX1_kindsOf_8 : decode cX1_kindsOf 8 = .ok (.istore 4, 2) := by decide +kernel
theorem dX1_kindsOf_10 : decode cX1_kindsOf 10 = .ok (.iconst 0, 1) := by decide +kernel
theorem dX1_kindsOf_11 : decode cX1_kindsOf 11 = .ok (.istore 5, 2) := by decide +kernel
theorem dX1_kindsOf_13 : decode cX1_kindsOf 13 = .ok (.iload 5, 2) := by decide +kernel
theorem dX1_kindsOf_15 : decode cX1_kindsOf 15 = .ok (.iload 4, 2) := by decide +kernel
theorem dX1_kindsOf_17 : decode cX1_kindsOf 17 = .ok (.if_icmp .ge 22, 3) := by decide +kernel
theorem dX1_kindsOf_20 : decode cX1_kindsOf 20 = .ok (.aload_n 0, 1) := by decide +kernel
theorem dX1_kindsOf_21 : decode cX1_kindsOf 21 = .ok (.iload 5, 2) := by decide +kernel
theorem dX1_kindsOf_23 : decode cX1_kindsOf 23 = .ok (.iload_n 1, 1) := by decide +kernel
theorem dX1_kindsOf_24 : decode cX1_kindsOf 24 = .ok (.invokestatic 62, 3) := by decide +kernel
theorem dX1_kindsOf_27 : decode cX1_kindsOf 27 = .ok (.ifCond .ne 6, 3) := by decide +kernel
theorem dX1_kindsOf_30 : decode cX1_kindsOf 30 = .ok (.iinc 3 1, 3) := by decide +kernel
theorem dX1_kindsOf_33 : decode cX1_kindsOf 33 = .ok (.iinc 5 1, 3) := by decide +kernel
theorem dX1_kindsOf_36 : decode cX1_kindsOf 36 = .ok (.goto (-23), 3) := by decide +kernel
theorem dX1_kindsOf_39 : decode cX1_kindsOf 39 = .ok (.iload_n 3, 1) := by decide +kernel
theorem dX1_kindsOf_40 : decode cX1_kindsOf 40 = .ok (.ireturn, 1) := by decide +kernel
theorem dX1_timesOf_0 : decode cX1_timesOf 0 = .ok (.iconst 0, 1) := by decide +kernel
theorem dX1_timesOf_1 : decode cX1_timesOf 1 = .ok (.istore_n 1, 1) := by decide +kernel
theorem dX1_timesOf_2 : decode cX1_timesOf 2 = .ok (.iconst 1, 1) := by decide +kernel
theorem dX1_timesOf_3 : decode cX1_timesOf 3 = .ok (.istore_n 2, 1) := by decide +kernel
theorem dX1_timesOf_4 : decode cX1_timesOf 4 = .ok (.iload_n 2, 1) := by decide +kernel
theorem dX1_timesOf_5 : decode cX1_timesOf 5 = .ok (.aload_n 0, 1) := by decide +kernel
theorem dX1_timesOf_6 : decode cX1_timesOf 6 = .ok (.getfield 12, 3) := by decide +kernel
theorem dX1_timesOf_9 : decode cX1_timesOf 9 = .ok (.if_icmp .gt 19, 3) := by decide +kernel
theorem dX1_timesOf_12 : decode cX1_timesOf 12 = .ok (.iload_n 1, 1) := by decide +kernel
theorem dX1_timesOf_13 : decode cX1_timesOf 13 = .ok (.aload_n 0, 1) := by decide +kernel
theorem dX1_timesOf_14 : decode cX1_timesOf 14 = .ok (.iload_n 2, 1) := by decide +kernel
theorem dX1_timesOf_15 : decode cX1_timesOf 15 = .ok (.invokestatic 66, 3) := by decide +kernel
theorem dX1_timesOf_18 : decode cX1_timesOf 18 = .ok (.invokestatic 47, 3) := by decide +kernel
theorem dX1_timesOf_21 : decode cX1_timesOf 21 = .ok (.istore_n 1, 1) := by decide +kernel
theorem dX1_timesOf_22 : decode cX1_timesOf 22 = .ok (.iinc 2 1, 3) := by decide +kernel
theorem dX1_timesOf_25 : decode cX1_timesOf 25 = .ok (.goto (-21), 3) := by decide +kernel
theorem dX1_timesOf_28 : decode cX1_timesOf 28 = .ok (.iload_n 1, 1) := by decide +kernel
theorem dX1_timesOf_29 : decode cX1_timesOf 29 = .ok (.ireturn, 1) := by decide +kernel
theorem dX1_timesWith_0 : decode cX1_timesWith 0 = .ok (.iconst 0, 1) := by decide +kernel
theorem dX1_timesWith_1 : decode cX1_timesWith 1 = .ok (.istore_n 2, 1) := by decide +kernel
theorem dX1_timesWith_2 : decode cX1_timesWith 2 = .ok (.iconst 0, 1) := by decide +kernel
theorem dX1_timesWith_3 : decode cX1_timesWith 3 = .ok (.istore_n 3, 1) := by decide +kernel
theorem dX1_timesWith_4 : decode cX1_timesWith 4 = .ok (.iconst 0, 1) := by decide +kernel
theorem dX1_timesWith_5 : decode cX1_timesWith 5 = .ok (.istore 4, 2) := by decide +kernel
theorem dX1_timesWith_7 : decode cX1_timesWith 7 = .ok (.iload 4, 2) := by decide +kernel
theorem dX1_timesWith_9 : decode cX1_timesWith 9 = .ok (.iload_n 1, 1) := by decide +kernel
theorem dX1_timesWith_10 : decode cX1_timesWith 10 = .ok (.iadd, 1) := by decide +kernel
theorem dX1_timesWith_11 : decode cX1_timesWith 11 = .ok (.aload_n 0, 1) := by decide +kernel
theorem dX1_timesWith_12 : decode cX1_timesWith 12 = .ok (.getfield 12, 3) := by decide +kernel
theorem dX1_timesWith_15 : decode cX1_timesWith 15 = .ok (.if_icmp .ge 40, 3) := by decide +kernel
theorem dX1_timesWith_18 : decode cX1_timesWith 18 = .ok (.aload_n 0, 1) := by decide +kernel
theorem dX1_timesWith_19 : decode cX1_timesWith 19 = .ok (.iload 4, 2) := by decide +kernel
theorem dX1_timesWith_21 : decode cX1_timesWith 21 = .ok (.invokevirtual 18, 3) := by decide +kernel
theorem dX1_timesWith_24 : decode cX1_timesWith 24 = .ok (.aload_n 0, 1) := by decide +kernel
theorem dX1_timesWith_25 : decode cX1_timesWith 25 = .ok (.iload 4, 2) := by decide +kernel
theorem dX1_timesWith_27 : decode cX1_timesWith 27 = .ok (.iload_n 1, 1) := by decide +kernel
theorem dX1_timesWith_28 : decode cX1_timesWith 28 = .ok (.iadd, 1) := by decide +kernel
theorem dX1_timesWith_29 : decode cX1_timesWith 29 = .ok (.invokevirtual 18, 3) := by decide +kernel
theorem dX1_timesWith_32 : decode cX1_timesWith 32 = .ok (.if_icmp .ne 9, 3) := by decide +kernel
theorem dX1_timesWith_35 : decode cX1_timesWith 35 = .ok (.iload_n 2, 1) := by decide +kernel
theorem dX1_timesWith_36 : decode cX1_timesWith 36 = .ok (.iconst 1, 1) := by decide +kernel
theorem dX1_timesWith_37 : decode cX1_timesWith 37 = .ok (.iadd, 1) := by decide +kernel
theorem dX1_timesWith_38 : decode cX1_timesWith 38 = .ok (.goto 4, 3) := by decide +kernel
theorem dX1_timesWith_41 : decode cX1_timesWith 41 = .ok (.iconst 0, 1) := by decide +kernel
theorem dX1_timesWith_42 : decode cX1_timesWith 42 = .ok (.istore_n 2, 1) := by decide +kernel
theorem dX1_timesWith_43 : decode cX1_timesWith 43 = .ok (.iload_n 3, 1) := by decide +kernel
theorem dX1_timesWith_44 : decode cX1_timesWith 44 = .ok (.iload_n 2, 1) := by decide +kernel
theorem dX1_timesWith_45 : decode cX1_timesWith 45 = .ok (.invokestatic 47, 3) := by decide +kernel
theorem dX1_timesWith_48 : decode cX1_timesWith 48 = .ok (.istore_n 3, 1) := by decide +kernel
theorem dX1_timesWith_49 : decode cX1_timesWith 49 = .ok (.iinc 4 1, 3) := by decide +kernel
theorem dX1_timesWith_52 : decode cX1_timesWith 52 = .ok (.goto (-45), 3) := by decide +kernel
theorem dX1_timesWith_55 : decode cX1_timesWith 55 = .ok (.iload_n 1, 1) := by decide +kernel
theorem dX1_timesWith_56 : decode cX1_timesWith 56 = .ok (.ifCond .le 11, 3) := by decide +kernel
theorem dX1_timesWith_59 : decode cX1_timesWith 59 = .ok (.iload_n 3, 1) := by decide +kernel
theorem dX1_timesWith_60 : decode cX1_timesWith 60 = .ok (.iload_n 1, 1) := by decide +kernel
theorem dX1_timesWith_61 : decode cX1_timesWith 61 = .ok (.idiv, 1) := by decide +kernel
theorem dX1_timesWith_62 : decode cX1_timesWith 62 = .ok (.iconst 1, 1) := by decide +kernel
theorem dX1_timesWith_63 : decode cX1_timesWith 63 = .ok (.iadd, 1) := by decide +kernel
theorem dX1_timesWith_64 : decode cX1_timesWith 64 = .ok (.goto 4, 3) := by decide +kernel
theorem dX1_timesWith_67 : decode cX1_timesWith 67 = .ok (.iconst 1, 1) := by decide +kernel
theorem dX1_timesWith_68 : decode cX1_timesWith 68 = .ok (.ireturn, 1) := by decide +kernel
theorem dX1_overlapsOf_0 : decode cX1_overlapsOf 0 = .ok (.iconst 0, 1) := by decide +kernel
theorem dX1_overlapsOf_1 : decode cX1_overlapsOf 1 = .ok (.istore_n 1, 1) := by decide +kernel
theorem dX1_overlapsOf_2 : decode cX1_overlapsOf 2 = .ok (.iconst 1, 1) := by decide +kernel
theorem dX1_overlapsOf_3 : decode cX1_overlapsOf 3 = .ok (.istore_n 2, 1) := by decide +kernel
theorem dX1_overlapsOf_4 : decode cX1_overlapsOf 4 = .ok (.iload_n 2, 1) := by decide +kernel
theorem dX1_overlapsOf_5 : decode cX1_overlapsOf 5 = .ok (.aload_n 0, 1) := by decide +kernel
theorem dX1_overlapsOf_6 : decode cX1_overlapsOf 6 = .ok (.getfield 12, 3) := by decide +kernel
theorem dX1_overlapsOf_9 : decode cX1_overlapsOf 9 = .ok (.if_icmp .ge 41, 3) := by decide +kernel
theorem dX1_overlapsOf_12 : decode cX1_overlapsOf 12 = .ok (.iconst 0, 1) := by decide +kernel
theorem dX1_overlapsOf_13 : decode cX1_overlapsOf 13 = .ok (.istore_n 3, 1) := by decide +kernel
theorem dX1_overlapsOf_14 : decode cX1_overlapsOf 14 = .ok (.iload_n 3, 1) := by decide +kernel
theorem dX1_overlapsOf_15 : decode cX1_overlapsOf 15 = .ok (.iconst 2, 1) := by decide +kernel
theorem dX1_overlapsOf_16 : decode cX1_overlapsOf 16 = .ok (.iload_n 2, 1) := by decide +kernel
theorem dX1_overlapsOf_17 : decode cX1_overlapsOf 17 = .ok (.imul, 1) := by decide +kernel
theorem dX1_overlapsOf_18 : decode cX1_overlapsOf 18 = .ok (.iadd, 1) := by decide +kernel
theorem dX1_overlapsOf_19 : decode cX1_overlapsOf 19 = .ok (.aload_n 0, 1) := by decide +kernel
theorem dX1_overlapsOf_20 : decode cX1_overlapsOf 20 = .ok (.getfield 12, 3) := by decide +kernel
theorem dX1_overlapsOf_23 : decode cX1_overlapsOf 23 = .ok (.if_icmp .ge 21, 3) := by decide +kernel
theorem dX1_overlapsOf_26 : decode cX1_overlapsOf 26 = .ok (.aload_n 0, 1) := by decide +kernel
theorem dX1_overlapsOf_27 : decode cX1_overlapsOf 27 = .ok (.iload_n 3, 1) := by decide +kernel
theorem dX1_overlapsOf_28 : decode cX1_overlapsOf 28 = .ok (.iload_n 2, 1) := by decide +kernel
theorem dX1_overlapsOf_29 : decode cX1_overlapsOf 29 = .ok (.invokestatic 70, 3) := by decide +kernel
theorem dX1_overlapsOf_32 : decode cX1_overlapsOf 32 = .ok (.ifCond .eq 6, 3) := by decide +kernel
theorem dX1_overlapsOf_35 : decode cX1_overlapsOf 35 = .ok (.iinc 1 1, 3) := by decide +kernel
theorem dX1_overlapsOf_38 : decode cX1_overlapsOf 38 = .ok (.iinc 3 1, 3) := by decide +kernel
theorem dX1_overlapsOf_41 : decode cX1_overlapsOf 41 = .ok (.goto (-27), 3) := by decide +kernel
theorem dX1_overlapsOf_44 : decode cX1_overlapsOf 44 = .ok (.iinc 2 1, 3) := by decide +kernel
theorem dX1_overlapsOf_47 : decode cX1_overlapsOf 47 = .ok (.goto (-43), 3) := by decide +kernel
theorem dX1_overlapsOf_50 : decode cX1_overlapsOf 50 = .ok (.iload_n 1, 1) := by decide +kernel
theorem dX1_overlapsOf_51 : decode cX1_overlapsOf 51 = .ok (.ireturn, 1) := by decide +kernel
theorem dX1_isOverlap_0 : decode cX1_isOverlap 0 = .ok (.iload_n 1, 1) := by decide +kernel
theorem dX1_isOverlap_1 : decode cX1_isOverlap 1 = .ok (.istore_n 3, 1) := by decide +kernel
theorem dX1_isOverlap_2 : decode cX1_isOverlap 2 = .ok (.iload_n 3, 1) := by decide +kernel
theorem dX1_isOverlap_3 : decode cX1_isOverlap 3 = .ok (.iload_n 1, 1) := by decide +kernel
theorem dX1_isOverlap_4 : decode cX1_isOverlap 4 = .ok (.iload_n 2, 1) := by decide +kernel
theorem dX1_isOverlap_5 : decode cX1_isOverlap 5 = .ok (.iadd, 1) := by decide +kernel
theorem dX1_isOverlap_6 : decode cX1_isOverlap 6 = .ok (.if_icmp .gt 26, 3) := by decide +kernel
theorem dX1_isOverlap_9 : decode cX1_isOverlap 9 = .ok (.aload_n 0, 1) := by decide +kernel
theorem dX1_isOverlap_10 : decode cX1_isOverlap 10 = .ok (.iload_n 3, 1) := by decide +kernel
theorem dX1_isOverlap_11 : decode cX1_isOverlap 11 = .ok (.invokevirtual 18, 3) := by decide +kernel
theorem dX1_isOverlap_14 : decode cX1_isOverlap 14 = .ok (.aload_n 0, 1) := by decide +kernel
theorem dX1_isOverlap_15 : decode cX1_isOverlap 15 = .ok (.iload_n 3, 1) := by decide +kernel
theorem dX1_isOverlap_16 : decode cX1_isOverlap 16 = .ok (.iload_n 2, 1) := by decide +kernel
theorem dX1_isOverlap_17 : decode cX1_isOverlap 17 = .ok (.iadd, 1) := by decide +kernel
theorem dX1_isOverlap_18 : decode cX1_isOverlap 18 = .ok (.invokevirtual 18, 3) := by decide +kernel
theorem dX1_isOverlap_21 : decode cX1_isOverlap 21 = .ok (.if_icmp .eq 5, 3) := by decide +kernel
theorem dX1_isOverlap_24 : decode cX1_isOverlap 24 = .ok (.iconst 0, 1) := by decide +kernel
theorem dX1_isOverlap_25 : decode cX1_isOverlap 25 = .ok (.ireturn, 1) := by decide +kernel
theorem dX1_isOverlap_26 : decode cX1_isOverlap 26 = .ok (.iinc 3 1, 3) := by decide +kernel
theorem dX1_isOverlap_29 : decode cX1_isOverlap 29 = .ok (.goto (-27), 3) := by decide +kernel
theorem dX1_isOverlap_32 : decode cX1_isOverlap 32 = .ok (.iconst 1, 1) := by decide +kernel
theorem dX1_isOverlap_33 : decode cX1_isOverlap 33 = .ok (.ireturn, 1) := by decide +kernel
theorem dX1_mirrorsOf_0 : decode cX1_mirrorsOf 0 = .ok (.iconst 0, 1) := by decide +kernel
theorem dX1_mirrorsOf_1 : decode cX1_mirrorsOf 1 = .ok (.istore_n 1, 1) := by decide +kernel
theorem dX1_mirrorsOf_2 : decode cX1_mirrorsOf 2 = .ok (.iconst 0, 1) := by decide +kernel
theorem dX1_mirrorsOf_3 : decode cX1_mirrorsOf 3 = .ok (.istore_n 2, 1) := by decide +kernel
theorem dX1_mirrorsOf_4 : decode cX1_mirrorsOf 4 = .ok (.iload_n 2, 1) := by decide +kernel
theorem dX1_mirrorsOf_5 : decode cX1_mirrorsOf 5 = .ok (.aload_n 0, 1) := by decide +kernel
theorem dX1_mirrorsOf_6 : decode cX1_mirrorsOf 6 = .ok (.getfield 12, 3) := by decide +kernel
theorem dX1_mirrorsOf_9 : decode cX1_mirrorsOf 9 = .ok (.if_icmp .ge 48, 3) := by decide +kernel
theorem dX1_mirrorsOf_12 : decode cX1_mirrorsOf 12 = .ok (.iconst 1, 1) := by decide +kernel
theorem dX1_mirrorsOf_13 : decode cX1_mirrorsOf 13 = .ok (.istore_n 3, 1) := by decide +kernel
theorem dX1_mirrorsOf_14 : decode cX1_mirrorsOf 14 = .ok (.iload_n 3, 1) := by decide +kernel
theorem dX1_mirrorsOf_15 : decode cX1_mirrorsOf 15 = .ok (.aload_n 0, 1) := by decide +kernel
theorem dX1_mirrorsOf_16 : decode cX1_mirrorsOf 16 = .ok (.getfield 12, 3) := by decide +kernel
theorem dX1_mirrorsOf_19 : decode cX1_mirrorsOf 19 = .ok (.iload_n 2, 1) := by decide +kernel
theorem dX1_mirrorsOf_20 : decode cX1_mirrorsOf 20 = .ok (.isub, 1) := by decide +kernel
theorem dX1_mirrorsOf_21 : decode cX1_mirrorsOf 21 = .ok (.if_icmp .gt 30, 3) := by decide +kernel
theorem dX1_mirrorsOf_24 : decode cX1_mirrorsOf 24 = .ok (.aload_n 0, 1) := by decide +kernel
theorem dX1_mirrorsOf_25 : decode cX1_mirrorsOf 25 = .ok (.iload_n 2, 1) := by decide +kernel
theorem dX1_mirrorsOf_26 : decode cX1_mirrorsOf 26 = .ok (.iload_n 3, 1) := by decide +kernel
theorem dX1_mirrorsOf_27 : decode cX1_mirrorsOf 27 = .ok (.invokestatic 73, 3) := by decide +kernel
theorem dX1_mirrorsOf_30 : decode cX1_mirrorsOf 30 = .ok (.ifCond .eq 15, 3) := by decide +kernel
theorem dX1_mirrorsOf_33 : decode cX1_mirrorsOf 33 = .ok (.aload_n 0, 1) := by decide +kernel
theorem dX1_mirrorsOf_34 : decode cX1_mirrorsOf 34 = .ok (.iload_n 2, 1) := by decide +kernel
theorem dX1_mirrorsOf_35 : decode cX1_mirrorsOf 35 = .ok (.iload_n 3, 1) := by decide +kernel
theorem dX1_mirrorsOf_36 : decode cX1_mirrorsOf 36 = .ok (.invokestatic 62, 3) := by decide +kernel
theorem dX1_mirrorsOf_39 : decode cX1_mirrorsOf 39 = .ok (.ifCond .ne 6, 3) := by decide +kernel
theorem dX1_mirrorsOf_42 : decode cX1_mirrorsOf 42 = .ok (.iinc 1 1, 3) := by decide +kernel
theorem dX1_mirrorsOf_45 : decode cX1_mirrorsOf 45 = .ok (.iinc 3 1, 3) := by decide +kernel
theorem dX1_mirrorsOf_48 : decode cX1_mirrorsOf 48 = .ok (.goto (-34), 3) := by decide +kernel
theorem dX1_mirrorsOf_51 : decode cX1_mirrorsOf 51 = .ok (.iinc 2 1, 3) := by decide +kernel
theorem dX1_mirrorsOf_54 : decode cX1_mirrorsOf 54 = .ok (.goto (-50), 3) := by decide +kernel
theorem dX1_mirrorsOf_57 : decode cX1_mirrorsOf 57 = .ok (.iload_n 1, 1) := by decide +kernel
theorem dX1_mirrorsOf_58 : decode cX1_mirrorsOf 58 = .ok (.ireturn, 1) := by decide +kernel
theorem dX1_foldsOf_0 : decode cX1_foldsOf 0 = .ok (.iconst 0, 1) := by decide +kernel
theorem dX1_foldsOf_1 : decode cX1_foldsOf 1 = .ok (.istore_n 1, 1) := by decide +kernel
theorem dX1_foldsOf_2 : decode cX1_foldsOf 2 = .ok (.iconst 0, 1) := by decide +kernel
theorem dX1_foldsOf_3 : decode cX1_foldsOf 3 = .ok (.istore_n 2, 1) := by decide +kernel
theorem dX1_foldsOf_4 : decode cX1_foldsOf 4 = .ok (.iload_n 2, 1) := by decide +kernel
theorem dX1_foldsOf_5 : decode cX1_foldsOf 5 = .ok (.aload_n 0, 1) := by decide +kernel
theorem dX1_foldsOf_6 : decode cX1_foldsOf 6 = .ok (.getfield 12, 3) := by decide +kernel
theorem dX1_foldsOf_9 : decode cX1_foldsOf 9 = .ok (.if_icmp .ge 35, 3) := by decide +kernel
theorem dX1_foldsOf_12 : decode cX1_foldsOf 12 = .ok (.aload_n 0, 1) := by decide +kernel
theorem dX1_foldsOf_13 : decode cX1_foldsOf 13 = .ok (.iconst 0, 1) := by decide +kernel
theorem dX1_foldsOf_14 : decode cX1_foldsOf 14 = .ok (.iload_n 2, 1) := by decide +kernel
theorem dX1_foldsOf_15 : decode cX1_foldsOf 15 = .ok (.invokestatic 73, 3) := by decide +kernel
theorem dX1_foldsOf_18 : decode cX1_foldsOf 18 = .ok (.ifCond .eq 20, 3) := by decide +kernel
theorem dX1_foldsOf_21 : decode cX1_foldsOf 21 = .ok (.aload_n 0, 1) := by decide +kernel
theorem dX1_foldsOf_22 : decode cX1_foldsOf 22 = .ok (.iload_n 2, 1) := by decide +kernel
theorem dX1_foldsOf_23 : decode cX1_foldsOf 23 = .ok (.aload_n 0, 1) := by decide +kernel
theorem dX1_foldsOf_24 : decode cX1_foldsOf 24 = .ok (.getfield 12, 3) := by decide +kernel
theorem dX1_foldsOf_27 : decode cX1_foldsOf 27 = .ok (.iload_n 2, 1) := by decide +kernel
theorem dX1_foldsOf_28 : decode cX1_foldsOf 28 = .ok (.isub, 1) := by decide +kernel
theorem dX1_foldsOf_29 : decode cX1_foldsOf 29 = .ok (.invokestatic 73, 3) := by decide +kernel
theorem dX1_foldsOf_32 : decode cX1_foldsOf 32 = .ok (.ifCond .eq 6, 3) := by decide +kernel
theorem dX1_foldsOf_35 : decode cX1_foldsOf 35 = .ok (.iinc 1 1, 3) := by decide +kernel
theorem dX1_foldsOf_38 : decode cX1_foldsOf 38 = .ok (.iinc 2 1, 3) := by decide +kernel
theorem dX1_foldsOf_41 : decode cX1_foldsOf 41 = .ok (.goto (-37), 3) := by decide +kernel
theorem dX1_foldsOf_44 : decode cX1_foldsOf 44 = .ok (.iload_n 1, 1) := by decide +kernel
theorem dX1_foldsOf_45 : decode cX1_foldsOf 45 = .ok (.ireturn, 1) := by decide +kernel
theorem dX1_leastOf_0 : decode cX1_leastOf 0 = .ok (.iconst 0, 1) := by decide +kernel
theorem dX1_leastOf_1 : decode cX1_leastOf 1 = .ok (.istore_n 1, 1) := by decide +kernel
theorem dX1_leastOf_2 : decode cX1_leastOf 2 = .ok (.iconst 1, 1) := by decide +kernel
theorem dX1_leastOf_3 : decode cX1_leastOf 3 = .ok (.istore_n 2, 1) := by decide +kernel
theorem dX1_leastOf_4 : decode cX1_leastOf 4 = .ok (.iload_n 2, 1) := by decide +kernel
theorem dX1_leastOf_5 : decode cX1_leastOf 5 = .ok (.aload_n 0, 1) := by decide +kernel
theorem dX1_leastOf_6 : decode cX1_leastOf 6 = .ok (.getfield 12, 3) := by decide +kernel
theorem dX1_leastOf_9 : decode cX1_leastOf 9 = .ok (.if_icmp .ge 24, 3) := by decide +kernel
theorem dX1_leastOf_12 : decode cX1_leastOf 12 = .ok (.aload_n 0, 1) := by decide +kernel
theorem dX1_leastOf_13 : decode cX1_leastOf 13 = .ok (.iload_n 2, 1) := by decide +kernel
theorem dX1_leastOf_14 : decode cX1_leastOf 14 = .ok (.iload_n 1, 1) := by decide +kernel
theorem dX1_leastOf_15 : decode cX1_leastOf 15 = .ok (.aload_n 0, 1) := by decide +kernel
theorem dX1_leastOf_16 : decode cX1_leastOf 16 = .ok (.getfield 12, 3) := by decide +kernel
theorem dX1_leastOf_19 : decode cX1_leastOf 19 = .ok (.invokestatic 58, 3) := by decide +kernel
theorem dX1_leastOf_22 : decode cX1_leastOf 22 = .ok (.ifCond .ge 5, 3) := by decide +kernel
theorem dX1_leastOf_25 : decode cX1_leastOf 25 = .ok (.iload_n 2, 1) := by decide +kernel
theorem dX1_leastOf_26 : decode cX1_leastOf 26 = .ok (.istore_n 1, 1) := by decide +kernel
theorem dX1_leastOf_27 : decode cX1_leastOf 27 = .ok (.iinc 2 1, 3) := by decide +kernel
theorem dX1_leastOf_30 : decode cX1_leastOf 30 = .ok (.goto (-26), 3) := by decide +kernel
theorem dX1_leastOf_33 : decode cX1_leastOf 33 = .ok (.iload_n 1, 1) := by decide +kernel
theorem dX1_leastOf_34 : decode cX1_leastOf 34 = .ok (.ireturn, 1) := by decide +kernel
theorem dX1_firstUnlikeJoined_0 : decode cX1_firstUnlikeJoined 0 = .ok (.iconst 0, 1) := by decide +kernel
theorem dX1_firstUnlikeJoined_1 : decode cX1_firstUnlikeJoined 1 = .ok (.istore_n 2, 1) := by decide +kernel
theorem dX1_firstUnlikeJoined_2 : decode cX1_firstUnlikeJoined 2 = .ok (.iload_n 2, 1) := by decide +kernel
theorem dX1_firstUnlikeJoined_3 : decode cX1_firstUnlikeJoined 3 = .ok (.aload_n 0, 1) := by decide +kernel
theorem dX1_firstUnlikeJoined_4 : decode cX1_firstUnlikeJoined 4 = .ok (.getfield 12, 3) := by decide +kernel
theorem dX1_firstUnlikeJoined_7 : decode cX1_firstUnlikeJoined 7 = .ok (.aload_n 1, 1) := by decide +kernel
theorem dX1_firstUnlikeJoined_8 : decode cX1_firstUnlikeJoined 8 = .ok (.getfield 12, 3) := by decide +kernel
theorem dX1_firstUnlikeJoined_11 : decode cX1_firstUnlikeJoined 11 = .ok (.iadd, 1) := by decide +kernel
theorem dX1_firstUnlikeJoined_12 : decode cX1_firstUnlikeJoined 12 = .ok (.if_icmp .ge 26, 3) := by decide +kernel
theorem dX1_firstUnlikeJoined_15 : decode cX1_firstUnlikeJoined 15 = .ok (.aload_n 0, 1) := by decide +kernel
theorem dX1_firstUnlikeJoined_16 : decode cX1_firstUnlikeJoined 16 = .ok (.aload_n 1, 1) := by decide +kernel
theorem dX1_firstUnlikeJoined_17 : decode cX1_firstUnlikeJoined 17 = .ok (.iload_n 2, 1) := by decide +kernel
theorem dX1_firstUnlikeJoined_18 : decode cX1_firstUnlikeJoined 18 = .ok (.invokestatic 76, 3) := by decide +kernel
theorem dX1_firstUnlikeJoined_21 : decode cX1_firstUnlikeJoined 21 = .ok (.aload_n 1, 1) := by decide +kernel
theorem dX1_firstUnlikeJoined_22 : decode cX1_firstUnlikeJoined 22 = .ok (.aload_n 0, 1) := by decide +kernel
theorem dX1_firstUnlikeJoined_23 : decode cX1_firstUnlikeJoined 23 = .ok (.iload_n 2, 1) := by decide +kernel
theorem dX1_firstUnlikeJoined_24 : decode cX1_firstUnlikeJoined 24 = .ok (.invokestatic 76, 3) := by decide +kernel
theorem dX1_firstUnlikeJoined_27 : decode cX1_firstUnlikeJoined 27 = .ok (.if_icmp .eq 5, 3) := by decide +kernel
theorem dX1_firstUnlikeJoined_30 : decode cX1_firstUnlikeJoined 30 = .ok (.iload_n 2, 1) := by decide +kernel
theorem dX1_firstUnlikeJoined_31 : decode cX1_firstUnlikeJoined 31 = .ok (.ireturn, 1) := by decide +kernel
theorem dX1_firstUnlikeJoined_32 : decode cX1_firstUnlikeJoined 32 = .ok (.iinc 2 1, 3) := by decide +kernel
theorem dX1_firstUnlikeJoined_35 : decode cX1_firstUnlikeJoined 35 = .ok (.goto (-33), 3) := by decide +kernel
theorem dX1_firstUnlikeJoined_38 : decode cX1_firstUnlikeJoined 38 = .ok (.iconst (-1), 1) := by decide +kernel
theorem dX1_firstUnlikeJoined_39 : decode cX1_firstUnlikeJoined 39 = .ok (.ireturn, 1) := by decide +kernel
theorem dX1_isUpJoined_0 : decode cX1_isUpJoined 0 = .ok (.iload_n 2, 1) := by decide +kernel
theorem dX1_isUpJoined_1 : decode cX1_isUpJoined 1 = .ok (.aload_n 0, 1) := by decide +kernel
theorem dX1_isUpJoined_2 : decode cX1_isUpJoined 2 = .ok (.getfield 12, 3) := by decide +kernel
theorem dX1_isUpJoined_5 : decode cX1_isUpJoined 5 = .ok (.if_icmp .ge 11, 3) := by decide +kernel
theorem dX1_isUpJoined_8 : decode cX1_isUpJoined 8 = .ok (.aload_n 0, 1) := by decide +kernel
theorem dX1_isUpJoined_9 : decode cX1_isUpJoined 9 = .ok (.iload_n 2, 1) := by decide +kernel
theorem dX1_isUpJoined_10 : decode cX1_isUpJoined 10 = .ok (.invokevirtual 18, 3) := by decide +kernel
theorem dX1_isUpJoined_13 : decode cX1_isUpJoined 13 = .ok (.goto 13, 3) := by decide +kernel
theorem dX1_isUpJoined_16 : decode cX1_isUpJoined 16 = .ok (.aload_n 1, 1) := by decide +kernel
theorem dX1_isUpJoined_17 : decode cX1_isUpJoined 17 = .ok (.iload_n 2, 1) := by decide +kernel
theorem dX1_isUpJoined_18 : decode cX1_isUpJoined 18 = .ok (.aload_n 0, 1) := by decide +kernel
theorem dX1_isUpJoined_19 : decode cX1_isUpJoined 19 = .ok (.getfield 12, 3) := by decide +kernel
theorem dX1_isUpJoined_22 : decode cX1_isUpJoined 22 = .ok (.isub, 1) := by decide +kernel
theorem dX1_isUpJoined_23 : decode cX1_isUpJoined 23 = .ok (.invokevirtual 18, 3) := by decide +kernel
theorem dX1_isUpJoined_26 : decode cX1_isUpJoined 26 = .ok (.ireturn, 1) := by decide +kernel
theorem dX2_init_0 : decode cX2_init 0 = .ok (.aload_n 0, 1) := by decide +kernel
theorem dX2_init_1 : decode cX2_init 1 = .ok (.invokespecial 3, 3) := by decide +kernel
theorem dX2_init_4 : decode cX2_init 4 = .ok (.aload_n 0, 1) := by decide +kernel
theorem dX2_init_5 : decode cX2_init 5 = .ok (.new 9, 3) := by decide +kernel
theorem dX2_init_8 : decode cX2_init 8 = .ok (.dup, 1) := by decide +kernel
theorem dX2_init_9 : decode cX2_init 9 = .ok (.invokespecial 11, 3) := by decide +kernel
theorem dX2_init_12 : decode cX2_init 12 = .ok (.putfield 12, 3) := by decide +kernel
theorem dX2_init_15 : decode cX2_init 15 = .ok (.aload_n 0, 1) := by decide +kernel
theorem dX2_init_16 : decode cX2_init 16 = .ok (.new 9, 3) := by decide +kernel
theorem dX2_init_19 : decode cX2_init 19 = .ok (.dup, 1) := by decide +kernel
