theorem dX0_init_0 : decode cX0_init 0 = .ok (.aload_n 0, 1) := by decide +kernel
theorem dX0_init_1 : decode cX0_init 1 = .ok (.invokespecial 3, 3) := by decide +kernel
theorem dX0_init_4 : decode cX0_init 4 = .ok (.aload_n 0, 1) := by decide +kernel
theorem dX0_init_5 : decode cX0_init 5 = .ok (.bipush 64, 2) := by decide +kernel
theorem dX0_init_7 : decode cX0_init 7 = .ok (.newarray .int, 2) := by decide +kernel
theorem dX0_init_9 : decode cX0_init 9 = .ok (.putfield 9, 3) := by decide +kernel
theorem dX0_init_12 : decode cX0_init 12 = .ok (.aload_n 0, 1) := by decide +kernel
theorem dX0_init_13 : decode cX0_init 13 = .ok (.new 15, 3) := by decide +kernel
theorem dX0_init_16 : decode cX0_init 16 = .ok (.dup, 1) := by decide +kernel
theorem dX0_init_17 : decode cX0_init 17 = .ok (.invokespecial 17, 3) := by decide +kernel
theorem dX0_init_20 : decode cX0_init 20 = .ok (.putfield 18, 3) := by decide +kernel
theorem dX0_init_23 : decode cX0_init 23 = .ok (.aload_n 0, 1) := by decide +kernel
theorem dX0_init_24 : decode cX0_init 24 = .ok (.new 15, 3) := by decide +kernel
theorem dX0_init_27 : decode cX0_init 27 = .ok (.dup, 1) := by decide +kernel
theorem dX0_init_28 : decode cX0_init 28 = .ok (.invokespecial 17, 3) := by decide +kernel
theorem dX0_init_31 : decode cX0_init 31 = .ok (.putfield 22, 3) := by decide +kernel
theorem dX0_init_34 : decode cX0_init 34 = .ok (.aload_n 0, 1) := by decide +kernel
theorem dX0_init_35 : decode cX0_init 35 = .ok (.invokevirtual 25, 3) := by decide +kernel
theorem dX0_init_38 : decode cX0_init 38 = .ok (.return_, 1) := by decide +kernel
theorem dX0_begin_0 : decode cX0_begin 0 = .ok (.aload_n 0, 1) := by decide +kernel
theorem dX0_begin_1 : decode cX0_begin 1 = .ok (.iconst 0, 1) := by decide +kernel
theorem dX0_begin_2 : decode cX0_begin 2 = .ok (.putfield 28, 3) := by decide +kernel
theorem dX0_begin_5 : decode cX0_begin 5 = .ok (.aload_n 0, 1) := by decide +kernel
theorem dX0_begin_6 : decode cX0_begin 6 = .ok (.getfield 18, 3) := by decide +kernel
theorem dX0_begin_9 : decode cX0_begin 9 = .ok (.invokevirtual 32, 3) := by decide +kernel
theorem dX0_begin_12 : decode cX0_begin 12 = .ok (.aload_n 0, 1) := by decide +kernel
theorem dX0_begin_13 : decode cX0_begin 13 = .ok (.getfield 18, 3) := by decide +kernel
theorem dX0_begin_16 : decode cX0_begin 16 = .ok (.iconst 1, 1) := by decide +kernel
theorem dX0_begin_17 : decode cX0_begin 17 = .ok (.invokevirtual 35, 3) := by decide +kernel
theorem dX0_begin_20 : decode cX0_begin 20 = .ok (.aload_n 0, 1) := by decide +kernel
theorem dX0_begin_21 : decode cX0_begin 21 = .ok (.getfield 22, 3) := by decide +kernel
theorem dX0_begin_24 : decode cX0_begin 24 = .ok (.invokevirtual 32, 3) := by decide +kernel
theorem dX0_begin_27 : decode cX0_begin 27 = .ok (.aload_n 0, 1) := by decide +kernel
theorem dX0_begin_28 : decode cX0_begin 28 = .ok (.getfield 22, 3) := by decide +kernel
theorem dX0_begin_31 : decode cX0_begin 31 = .ok (.iconst 0, 1) := by decide +kernel
theorem dX0_begin_32 : decode cX0_begin 32 = .ok (.invokevirtual 35, 3) := by decide +kernel
theorem dX0_begin_35 : decode cX0_begin 35 = .ok (.return_, 1) := by decide +kernel
theorem dX0_wordBy_0 : decode cX0_wordBy 0 = .ok (.iload_n 1, 1) := by decide +kernel
theorem dX0_wordBy_1 : decode cX0_wordBy 1 = .ok (.ifCond .eq 10, 3) := by decide +kernel
theorem dX0_wordBy_4 : decode cX0_wordBy 4 = .ok (.aload_n 0, 1) := by decide +kernel
theorem dX0_wordBy_5 : decode cX0_wordBy 5 = .ok (.getfield 18, 3) := by decide +kernel
theorem dX0_wordBy_8 : decode cX0_wordBy 8 = .ok (.goto 7, 3) := by decide +kernel
theorem dX0_wordBy_11 : decode cX0_wordBy 11 = .ok (.aload_n 0, 1) := by decide +kernel
theorem dX0_wordBy_12 : decode cX0_wordBy 12 = .ok (.getfield 22, 3) := by decide +kernel
theorem dX0_wordBy_15 : decode cX0_wordBy 15 = .ok (.areturn, 1) := by decide +kernel
theorem dX0_turnAt_0 : decode cX0_turnAt 0 = .ok (.iload_n 1, 1) := by decide +kernel
theorem dX0_turnAt_1 : decode cX0_turnAt 1 = .ok (.ifCond .lt 21, 3) := by decide +kernel
theorem dX0_turnAt_4 : decode cX0_turnAt 4 = .ok (.iload_n 1, 1) := by decide +kernel
theorem dX0_turnAt_5 : decode cX0_turnAt 5 = .ok (.aload_n 0, 1) := by decide +kernel
theorem dX0_turnAt_6 : decode cX0_turnAt 6 = .ok (.getfield 9, 3) := by decide +kernel
theorem dX0_turnAt_9 : decode cX0_turnAt 9 = .ok (.arraylength, 1) := by decide +kernel
theorem dX0_turnAt_10 : decode cX0_turnAt 10 = .ok (.if_icmp .ge 12, 3) := by decide +kernel
theorem dX0_turnAt_13 : decode cX0_turnAt 13 = .ok (.aload_n 0, 1) := by decide +kernel
theorem dX0_turnAt_14 : decode cX0_turnAt 14 = .ok (.getfield 9, 3) := by decide +kernel
theorem dX0_turnAt_17 : decode cX0_turnAt 17 = .ok (.iload_n 1, 1) := by decide +kernel
theorem dX0_turnAt_18 : decode cX0_turnAt 18 = .ok (.iaload, 1) := by decide +kernel
theorem dX0_turnAt_19 : decode cX0_turnAt 19 = .ok (.goto 4, 3) := by decide +kernel
theorem dX0_turnAt_22 : decode cX0_turnAt 22 = .ok (.iconst 0, 1) := by decide +kernel
theorem dX0_turnAt_23 : decode cX0_turnAt 23 = .ok (.ireturn, 1) := by decide +kernel
theorem dX0_goOn_0 : decode cX0_goOn 0 = .ok (.aload_n 0, 1) := by decide +kernel
theorem dX0_goOn_1 : decode cX0_goOn 1 = .ok (.getfield 28, 3) := by decide +kernel
theorem dX0_goOn_4 : decode cX0_goOn 4 = .ok (.ifCond .lt 19, 3) := by decide +kernel
theorem dX0_goOn_7 : decode cX0_goOn 7 = .ok (.aload_n 0, 1) := by decide +kernel
theorem dX0_goOn_8 : decode cX0_goOn 8 = .ok (.getfield 28, 3) := by decide +kernel
theorem dX0_goOn_11 : decode cX0_goOn 11 = .ok (.aload_n 0, 1) := by decide +kernel
theorem dX0_goOn_12 : decode cX0_goOn 12 = .ok (.getfield 9, 3) := by decide +kernel
theorem dX0_goOn_15 : decode cX0_goOn 15 = .ok (.arraylength, 1) := by decide +kernel
theorem dX0_goOn_16 : decode cX0_goOn 16 = .ok (.if_icmp .ge 7, 3) := by decide +kernel
theorem dX0_goOn_19 : decode cX0_goOn 19 = .ok (.iconst 1, 1) := by decide +kernel
theorem dX0_goOn_20 : decode cX0_goOn 20 = .ok (.goto 4, 3) := by decide +kernel
theorem dX0_goOn_23 : decode cX0_goOn 23 = .ok (.iconst 0, 1) := by decide +kernel
theorem dX0_goOn_24 : decode cX0_goOn 24 = .ok (.istore_n 3, 1) := by decide +kernel
theorem dX0_goOn_25 : decode cX0_goOn 25 = .ok (.iload_n 3, 1) := by decide +kernel
theorem dX0_goOn_26 : decode cX0_goOn 26 = .ok (.ifCond .eq 25, 3) := by decide +kernel
theorem dX0_goOn_29 : decode cX0_goOn 29 = .ok (.iload_n 1, 1) := by decide +kernel
theorem dX0_goOn_30 : decode cX0_goOn 30 = .ok (.aload_n 0, 1) := by decide +kernel
theorem dX0_goOn_31 : decode cX0_goOn 31 = .ok (.getfield 22, 3) := by decide +kernel
theorem dX0_goOn_34 : decode cX0_goOn 34 = .ok (.getfield 39, 3) := by decide +kernel
theorem dX0_goOn_37 : decode cX0_goOn 37 = .ok (.imul, 1) := by decide +kernel
theorem dX0_goOn_38 : decode cX0_goOn 38 = .ok (.aload_n 0, 1) := by decide +kernel
theorem dX0_goOn_39 : decode cX0_goOn 39 = .ok (.getfield 18, 3) := by decide +kernel
theorem dX0_goOn_42 : decode cX0_goOn 42 = .ok (.getfield 39, 3) := by decide +kernel
theorem dX0_goOn_45 : decode cX0_goOn 45 = .ok (.iadd, 1) := by decide +kernel
theorem dX0_goOn_46 : decode cX0_goOn 46 = .ok (.bipush 64, 2) := by decide +kernel
theorem dX0_goOn_48 : decode cX0_goOn 48 = .ok (.if_icmp .le 5, 3) := by decide +kernel
theorem dX0_goOn_51 : decode cX0_goOn 51 = .ok (.iconst 0, 1) := by decide +kernel
theorem dX0_goOn_52 : decode cX0_goOn 52 = .ok (.ireturn, 1) := by decide +kernel
theorem dX0_goOn_53 : decode cX0_goOn 53 = .ok (.aload_n 2, 1) := by decide +kernel
theorem dX0_goOn_54 : decode cX0_goOn 54 = .ok (.invokevirtual 32, 3) := by decide +kernel
theorem dX0_goOn_57 : decode cX0_goOn 57 = .ok (.iconst 0, 1) := by decide +kernel
theorem dX0_goOn_58 : decode cX0_goOn 58 = .ok (.istore 4, 2) := by decide +kernel
theorem dX0_goOn_60 : decode cX0_goOn 60 = .ok (.iload 4, 2) := by decide +kernel
theorem dX0_goOn_62 : decode cX0_goOn 62 = .ok (.iload_n 1, 1) := by decide +kernel
theorem dX0_goOn_63 : decode cX0_goOn 63 = .ok (.if_icmp .ge 25, 3) := by decide +kernel
theorem dX0_goOn_66 : decode cX0_goOn 66 = .ok (.aload_n 2, 1) := by decide +kernel
theorem dX0_goOn_67 : decode cX0_goOn 67 = .ok (.aload_n 0, 1) := by decide +kernel
theorem dX0_goOn_68 : decode cX0_goOn 68 = .ok (.getfield 22, 3) := by decide +kernel
theorem dX0_goOn_71 : decode cX0_goOn 71 = .ok (.iconst 0, 1) := by decide +kernel
theorem dX0_goOn_72 : decode cX0_goOn 72 = .ok (.aload_n 0, 1) := by decide +kernel
theorem dX0_goOn_73 : decode cX0_goOn 73 = .ok (.getfield 22, 3) := by decide +kernel
theorem dX0_goOn_76 : decode cX0_goOn 76 = .ok (.getfield 39, 3) := by decide +kernel
theorem dX0_goOn_79 : decode cX0_goOn 79 = .ok (.invokevirtual 42, 3) := by decide +kernel
theorem dX0_goOn_82 : decode cX0_goOn 82 = .ok (.iinc 4 1, 3) := by decide +kernel
theorem dX0_goOn_85 : decode cX0_goOn 85 = .ok (.goto (-25), 3) := by decide +kernel
theorem dX0_goOn_88 : decode cX0_goOn 88 = .ok (.aload_n 2, 1) := by decide +kernel
theorem dX0_goOn_89 : decode cX0_goOn 89 = .ok (.aload_n 0, 1) := by decide +kernel
theorem dX0_goOn_90 : decode cX0_goOn 90 = .ok (.getfield 18, 3) := by decide +kernel
theorem dX0_goOn_93 : decode cX0_goOn 93 = .ok (.iconst 0, 1) := by decide +kernel
theorem dX0_goOn_94 : decode cX0_goOn 94 = .ok (.aload_n 0, 1) := by decide +kernel
theorem dX0_goOn_95 : decode cX0_goOn 95 = .ok (.getfield 18, 3) := by decide +kernel
theorem dX0_goOn_98 : decode cX0_goOn 98 = .ok (.getfield 39, 3) := by decide +kernel
theorem dX0_goOn_101 : decode cX0_goOn 101 = .ok (.invokevirtual 42, 3) := by decide +kernel
theorem dX0_goOn_104 : decode cX0_goOn 104 = .ok (.aload_n 0, 1) := by decide +kernel
theorem dX0_goOn_105 : decode cX0_goOn 105 = .ok (.getfield 18, 3) := by decide +kernel
theorem dX0_goOn_108 : decode cX0_goOn 108 = .ok (.aload_n 0, 1) := by decide +kernel
theorem dX0_goOn_109 : decode cX0_goOn 109 = .ok (.getfield 22, 3) := by decide +kernel
theorem dX0_goOn_112 : decode cX0_goOn 112 = .ok (.invokevirtual 46, 3) := by decide +kernel
theorem dX0_goOn_115 : decode cX0_goOn 115 = .ok (.aload_n 0, 1) := by decide +kernel
theorem dX0_goOn_116 : decode cX0_goOn 116 = .ok (.getfield 22, 3) := by decide +kernel
theorem dX0_goOn_119 : decode cX0_goOn 119 = .ok (.aload_n 2, 1) := by decide +kernel
theorem dX0_goOn_120 : decode cX0_goOn 120 = .ok (.invokevirtual 46, 3) := by decide +kernel
theorem dX0_goOn_123 : decode cX0_goOn 123 = .ok (.aload_n 0, 1) := by decide +kernel
theorem dX0_goOn_124 : decode cX0_goOn 124 = .ok (.getfield 9, 3) := by decide +kernel
theorem dX0_goOn_127 : decode cX0_goOn 127 = .ok (.aload_n 0, 1) := by decide +kernel
theorem dX0_goOn_128 : decode cX0_goOn 128 = .ok (.getfield 28, 3) := by decide +kernel
theorem dX0_goOn_131 : decode cX0_goOn 131 = .ok (.iload_n 1, 1) := by decide +kernel
theorem dX0_goOn_132 : decode cX0_goOn 132 = .ok (.iastore, 1) := by decide +kernel
theorem dX0_goOn_133 : decode cX0_goOn 133 = .ok (.aload_n 0, 1) := by decide +kernel
theorem dX0_goOn_134 : decode cX0_goOn 134 = .ok (.dup, 1) := by decide +kernel
theorem dX0_goOn_135 : decode cX0_goOn 135 = .ok (.getfield 28, 3) := by decide +kernel
theorem dX0_goOn_138 : decode cX0_goOn 138 = .ok (.iconst 1, 1) := by decide +kernel
theorem dX0_goOn_139 : decode cX0_goOn 139 = .ok (.iadd, 1) := by decide +kernel
theorem dX0_goOn_140 : decode cX0_goOn 140 = .ok (.putfield 28, 3) := by decide +kernel
theorem dX0_goOn_143 : decode cX0_goOn 143 = .ok (.iconst 1, 1) := by decide +kernel
theorem dX0_goOn_144 : decode cX0_goOn 144 = .ok (.ireturn, 1) := by decide +kernel
theorem dX0_goBack_0 : decode cX0_goBack 0 = .ok (.aload_n 0, 1) := by decide +kernel
theorem dX0_goBack_1 : decode cX0_goBack 1 = .ok (.aload_n 0, 1) := by decide +kernel
theorem dX0_goBack_2 : decode cX0_goBack 2 = .ok (.getfield 28, 3) := by decide +kernel
theorem dX0_goBack_5 : decode cX0_goBack 5 = .ok (.iconst 1, 1) := by decide +kernel
theorem dX0_goBack_6 : decode cX0_goBack 6 = .ok (.isub, 1) := by decide +kernel
theorem dX0_goBack_7 : decode cX0_goBack 7 = .ok (.invokevirtual 50, 3) := by decide +kernel
theorem dX0_goBack_10 : decode cX0_goBack 10 = .ok (.istore_n 2, 1) := by decide +kernel
theorem dX0_goBack_11 : decode cX0_goBack 11 = .ok (.aload_n 1, 1) := by decide +kernel
theorem dX0_goBack_12 : decode cX0_goBack 12 = .ok (.invokevirtual 32, 3) := by decide +kernel
theorem dX0_goBack_15 : decode cX0_goBack 15 = .ok (.aload_n 1, 1) := by decide +kernel
theorem dX0_goBack_16 : decode cX0_goBack 16 = .ok (.aload_n 0, 1) := by decide +kernel
theorem dX0_goBack_17 : decode cX0_goBack 17 = .ok (.getfield 22, 3) := by decide +kernel
theorem dX0_goBack_20 : decode cX0_goBack 20 = .ok (.iload_n 2, 1) := by decide +kernel
theorem dX0_goBack_21 : decode cX0_goBack 21 = .ok (.aload_n 0, 1) := by decide +kernel
theorem dX0_goBack_22 : decode cX0_goBack 22 = .ok (.getfield 18, 3) := by decide +kernel
theorem dX0_goBack_25 : decode cX0_goBack 25 = .ok (.getfield 39, 3) := by decide +kernel
theorem dX0_goBack_28 : decode cX0_goBack 28 = .ok (.imul, 1) := by decide +kernel
theorem dX0_goBack_29 : decode cX0_goBack 29 = .ok (.aload_n 0, 1) := by decide +kernel
theorem dX0_goBack_30 : decode cX0_goBack 30 = .ok (.getfield 22, 3) := by decide +kernel
theorem dX0_goBack_33 : decode cX0_goBack 33 = .ok (.getfield 39, 3) := by decide +kernel
theorem dX0_goBack_36 : decode cX0_goBack 36 = .ok (.invokevirtual 42, 3) := by decide +kernel
theorem dX0_goBack_39 : decode cX0_goBack 39 = .ok (.aload_n 0, 1) := by decide +kernel
theorem dX0_goBack_40 : decode cX0_goBack 40 = .ok (.getfield 22, 3) := by decide +kernel
theorem dX0_goBack_43 : decode cX0_goBack 43 = .ok (.aload_n 0, 1) := by decide +kernel
theorem dX0_goBack_44 : decode cX0_goBack 44 = .ok (.getfield 18, 3) := by decide +kernel
theorem dX0_goBack_47 : decode cX0_goBack 47 = .ok (.invokevirtual 46, 3) := by decide +kernel
theorem dX0_goBack_50 : decode cX0_goBack 50 = .ok (.aload_n 0, 1) := by decide +kernel
theorem dX0_goBack_51 : decode cX0_goBack 51 = .ok (.getfield 18, 3) := by decide +kernel
theorem dX0_goBack_54 : decode cX0_goBack 54 = .ok (.aload_n 1, 1) := by decide +kernel
theorem dX0_goBack_55 : decode cX0_goBack 55 = .ok (.invokevirtual 46, 3) := by decide +kernel
theorem dX0_goBack_58 : decode cX0_goBack 58 = .ok (.aload_n 0, 1) := by decide +kernel
theorem dX0_goBack_59 : decode cX0_goBack 59 = .ok (.dup, 1) := by decide +kernel
theorem dX0_goBack_60 : decode cX0_goBack 60 = .ok (.getfield 28, 3) := by decide +kernel
theorem dX0_goBack_63 : decode cX0_goBack 63 = .ok (.iconst 1, 1) := by decide +kernel
theorem dX0_goBack_64 : decode cX0_goBack 64 = .ok (.isub, 1) := by decide +kernel
theorem dX0_goBack_65 : decode cX0_goBack 65 = .ok (.putfield 28, 3) := by decide +kernel
theorem dX0_goBack_68 : decode cX0_goBack 68 = .ok (.iload_n 2, 1) := by decide +kernel
theorem dX0_goBack_69 : decode cX0_goBack 69 = .ok (.ireturn, 1) := by decide +kernel
theorem dX0_layByRules_0 : decode cX0_layByRules 0 = .ok (.aload_n 1, 1) := by decide +kernel
theorem dX0_layByRules_1 : decode cX0_layByRules 1 = .ok (.invokevirtual 32, 3) := by decide +kernel
theorem dX0_layByRules_4 : decode cX0_layByRules 4 = .ok (.aload_n 1, 1) := by decide +kernel
theorem dX0_layByRules_5 : decode cX0_layByRules 5 = .ok (.iconst 0, 1) := by decide +kernel
theorem dX0_layByRules_6 : decode cX0_layByRules 6 = .ok (.invokevirtual 35, 3) := by decide +kernel
theorem dX0_layByRules_9 : decode cX0_layByRules 9 = .ok (.aload_n 0, 1) := by decide +kernel
theorem dX0_layByRules_10 : decode cX0_layByRules 10 = .ok (.getfield 28, 3) := by decide +kernel
theorem dX0_layByRules_13 : decode cX0_layByRules 13 = .ok (.iconst 1, 1) := by decide +kernel
theorem dX0_layByRules_14 : decode cX0_layByRules 14 = .ok (.isub, 1) := by decide +kernel
theorem dX0_layByRules_15 : decode cX0_layByRules 15 = .ok (.istore 4, 2) := by decide +kernel
theorem dX0_layByRules_17 : decode cX0_layByRules 17 = .ok (.iload 4, 2) := by decide +kernel
theorem dX0_layByRules_19 : decode cX0_layByRules 19 = .ok (.ifCond .lt 34, 3) := by decide +kernel
theorem dX0_layByRules_22 : decode cX0_layByRules 22 = .ok (.aload_n 3, 1) := by decide +kernel
theorem dX0_layByRules_23 : decode cX0_layByRules 23 = .ok (.aload_n 0, 1) := by decide +kernel
theorem dX0_layByRules_24 : decode cX0_layByRules 24 = .ok (.iload 4, 2) := by decide +kernel
theorem dX0_layByRules_26 : decode cX0_layByRules 26 = .ok (.invokevirtual 50, 3) := by decide +kernel
theorem dX0_layByRules_29 : decode cX0_layByRules 29 = .ok (.invokestatic 54, 3) := by decide +kernel
theorem dX0_layByRules_32 : decode cX0_layByRules 32 = .ok (.iconst 2, 1) := by decide +kernel
theorem dX0_layByRules_33 : decode cX0_layByRules 33 = .ok (.invokevirtual 57, 3) := by decide +kernel
theorem dX0_layByRules_36 : decode cX0_layByRules 36 = .ok (.aload_n 3, 1) := by decide +kernel
theorem dX0_layByRules_37 : decode cX0_layByRules 37 = .ok (.aload_n 1, 1) := by decide +kernel
theorem dX0_layByRules_38 : decode cX0_layByRules 38 = .ok (.aload_n 2, 1) := by decide +kernel
theorem dX0_layByRules_39 : decode cX0_layByRules 39 = .ok (.invokevirtual 62, 3) := by decide +kernel
theorem dX0_layByRules_42 : decode cX0_layByRules 42 = .ok (.aload_n 1, 1) := by decide +kernel
theorem dX0_layByRules_43 : decode cX0_layByRules 43 = .ok (.aload_n 2, 1) := by decide +kernel
theorem dX0_layByRules_44 : decode cX0_layByRules 44 = .ok (.invokevirtual 46, 3) := by decide +kernel
theorem dX0_layByRules_47 : decode cX0_layByRules 47 = .ok (.iinc 4 (-1), 3) := by decide +kernel
theorem dX0_layByRules_50 : decode cX0_layByRules 50 = .ok (.goto (-33), 3) := by decide +kernel
theorem dX0_layByRules_53 : decode cX0_layByRules 53 = .ok (.return_, 1) := by decide +kernel
theorem dX0_codeForA_0 : decode cX0_codeForA 0 = .ok (.iload_n 0, 1) := by decide +kernel
theorem dX0_codeForA_1 : decode cX0_codeForA 1 = .ok (.ifCond .lt 19, 3) := by decide +kernel
theorem dX0_codeForA_4 : decode cX0_codeForA 4 = .ok (.iload_n 0, 1) := by decide +kernel
theorem dX0_codeForA_5 : decode cX0_codeForA 5 = .ok (.getstatic 66, 3) := by decide +kernel
theorem dX0_codeForA_8 : decode cX0_codeForA 8 = .ok (.arraylength, 1) := by decide +kernel
theorem dX0_codeForA_9 : decode cX0_codeForA 9 = .ok (.if_icmp .ge 11, 3) := by decide +kernel
theorem dX0_codeForA_12 : decode cX0_codeForA 12 = .ok (.getstatic 66, 3) := by decide +kernel
theorem dX0_codeForA_15 : decode cX0_codeForA 15 = .ok (.iload_n 0, 1) := by decide +kernel
theorem dX0_codeForA_16 : decode cX0_codeForA 16 = .ok (.iaload, 1) := by decide +kernel
theorem dX0_codeForA_17 : decode cX0_codeForA 17 = .ok (.goto 4, 3) := by decide +kernel
theorem dX0_codeForA_20 : decode cX0_codeForA 20 = .ok (.iconst 0, 1) := by decide +kernel
theorem dX0_codeForA_21 : decode cX0_codeForA 21 = .ok (.ireturn, 1) := by decide +kernel
theorem dX0_layByLine_0 : decode cX0_layByLine 0 = .ok (.iconst 1, 1) := by decide +kernel
theorem dX0_layByLine_1 : decode cX0_layByLine 1 = .ok (.istore_n 2, 1) := by decide +kernel
theorem dX0_layByLine_2 : decode cX0_layByLine 2 = .ok (.iconst 1, 1) := by decide +kernel
theorem dX0_layByLine_3 : decode cX0_layByLine 3 = .ok (.istore_n 3, 1) := by decide +kernel
theorem dX0_layByLine_4 : decode cX0_layByLine 4 = .ok (.iconst 1, 1) := by decide +kernel
theorem dX0_layByLine_5 : decode cX0_layByLine 5 = .ok (.istore 4, 2) := by decide +kernel
theorem dX0_layByLine_7 : decode cX0_layByLine 7 = .ok (.iconst 0, 1) := by decide +kernel
theorem dX0_layByLine_8 : decode cX0_layByLine 8 = .ok (.istore 5, 2) := by decide +kernel
theorem dX0_layByLine_10 : decode cX0_layByLine 10 = .ok (.iconst 0, 1) := by decide +kernel
theorem dX0_layByLine_11 : decode cX0_layByLine 11 = .ok (.istore 6, 2) := by decide +kernel
theorem dX0_layByLine_13 : decode cX0_layByLine 13 = .ok (.iload 6, 2) := by decide +kernel
theorem dX0_layByLine_15 : decode cX0_layByLine 15 = .ok (.aload_n 0, 1) := by decide +kernel
theorem dX0_layByLine_16 : decode cX0_layByLine 16 = .ok (.getfield 28, 3) := by decide +kernel
theorem dX0_layByLine_19 : decode cX0_layByLine 19 = .ok (.if_icmp .ge 49, 3) := by decide +kernel
theorem dX0_layByLine_22 : decode cX0_layByLine 22 = .ok (.aload_n 0, 1) := by decide +kernel
theorem dX0_layByLine_23 : decode cX0_layByLine 23 = .ok (.iload 6, 2) := by decide +kernel
theorem dX0_layByLine_25 : decode cX0_layByLine 25 = .ok (.invokevirtual 50, 3) := by decide +kernel
theorem dX0_layByLine_28 : decode cX0_layByLine 28 = .ok (.istore 7, 2) := by decide +kernel
theorem dX0_layByLine_30 : decode cX0_layByLine 30 = .ok (.iload 7, 2) := by decide +kernel
theorem dX0_layByLine_32 : decode cX0_layByLine 32 = .ok (.iload 4, 2) := by decide +kernel
theorem dX0_layByLine_34 : decode cX0_layByLine 34 = .ok (.imul, 1) := by decide +kernel
theorem dX0_layByLine_35 : decode cX0_layByLine 35 = .ok (.iload_n 2, 1) := by decide +kernel
theorem dX0_layByLine_36 : decode cX0_layByLine 36 = .ok (.iadd, 1) := by decide +kernel
theorem dX0_layByLine_37 : decode cX0_layByLine 37 = .ok (.istore 8, 2) := by decide +kernel
theorem dX0_layByLine_39 : decode cX0_layByLine 39 = .ok (.iload 7, 2) := by decide +kernel
theorem dX0_layByLine_41 : decode cX0_layByLine 41 = .ok (.iload 5, 2) := by decide +kernel
theorem dX0_layByLine_43 : decode cX0_layByLine 43 = .ok (.imul, 1) := by decide +kernel
theorem dX0_layByLine_44 : decode cX0_layByLine 44 = .ok (.iload_n 3, 1) := by decide +kernel
theorem dX0_layByLine_45 : decode cX0_layByLine 45 = .ok (.iadd, 1) := by decide +kernel
theorem dX0_layByLine_46 : decode cX0_layByLine 46 = .ok (.istore 9, 2) := by decide +kernel
theorem dX0_layByLine_48 : decode cX0_layByLine 48 = .ok (.iload 4, 2) := by decide +kernel
theorem dX0_layByLine_50 : decode cX0_layByLine 50 = .ok (.istore_n 2, 1) := by decide +kernel
theorem dX0_layByLine_51 : decode cX0_layByLine 51 = .ok (.iload 5, 2) := by decide +kernel
theorem dX0_layByLine_53 : decode cX0_layByLine 53 = .ok (.istore_n 3, 1) := by decide +kernel
theorem dX0_layByLine_54 : decode cX0_layByLine 54 = .ok (.iload 8, 2) := by decide +kernel
theorem dX0_layByLine_56 : decode cX0_layByLine 56 = .ok (.istore 4, 2) := by decide +kernel
theorem dX0_layByLine_58 : decode cX0_layByLine 58 = .ok (.iload 9, 2) := by decide +kernel
theorem dX0_layByLine_60 : decode cX0_layByLine 60 = .ok (.istore 5, 2) := by decide +kernel
theorem dX0_layByLine_62 : decode cX0_layByLine 62 = .ok (.iinc 6 1, 3) := by decide +kernel
theorem dX0_layByLine_65 : decode cX0_layByLine 65 = .ok (.goto (-52), 3) := by decide +kernel
theorem dX0_layByLine_68 : decode cX0_layByLine 68 = .ok (.aload_n 1, 1) := by decide +kernel
theorem dX0_layByLine_69 : decode cX0_layByLine 69 = .ok (.invokevirtual 32, 3) := by decide +kernel
theorem dX0_layByLine_72 : decode cX0_layByLine 72 = .ok (.iconst 1, 1) := by decide +kernel
theorem dX0_layByLine_73 : decode cX0_layByLine 73 = .ok (.istore 6, 2) := by decide +kernel
theorem dX0_layByLine_75 : decode cX0_layByLine 75 = .ok (.iload 6, 2) := by decide +kernel
theorem dX0_layByLine_77 : decode cX0_layByLine 77 = .ok (.iload 4, 2) := by decide +kernel
theorem dX0_layByLine_79 : decode cX0_layByLine 79 = .ok (.iconst 1, 1) := by decide +kernel
theorem dX0_layByLine_80 : decode cX0_layByLine 80 = .ok (.isub, 1) := by decide +kernel
theorem dX0_layByLine_81 : decode cX0_layByLine 81 = .ok (.if_icmp .ge 23, 3) := by decide +kernel
theorem dX0_layByLine_84 : decode cX0_layByLine 84 = .ok (.aload_n 1, 1) := by decide +kernel
theorem dX0_layByLine_85 : decode cX0_layByLine 85 = .ok (.iload 4, 2) := by decide +kernel
theorem dX0_layByLine_87 : decode cX0_layByLine 87 = .ok (.iload 5, 2) := by decide +kernel
theorem dX0_layByLine_89 : decode cX0_layByLine 89 = .ok (.iconst 0, 1) := by decide +kernel
theorem dX0_layByLine_90 : decode cX0_layByLine 90 = .ok (.iload 6, 2) := by decide +kernel
theorem dX0_layByLine_92 : decode cX0_layByLine 92 = .ok (.invokestatic 69, 3) := by decide +kernel
theorem dX0_layByLine_95 : decode cX0_layByLine 95 = .ok (.invokevirtual 35, 3) := by decide +kernel
theorem dX0_layByLine_98 : decode cX0_layByLine 98 = .ok (.iinc 6 1, 3) := by decide +kernel
theorem dX0_layByLine_101 : decode cX0_layByLine 101 = .ok (.goto (-26), 3) := by decide +kernel
theorem dX0_layByLine_104 : decode cX0_layByLine 104 = .ok (.aload_n 0, 1) := by decide +kernel
theorem dX0_layByLine_105 : decode cX0_layByLine 105 = .ok (.aload_n 1, 1) := by decide +kernel
theorem dX0_layByLine_106 : decode cX0_layByLine 106 = .ok (.invokevirtual 73, 3) := by decide +kernel
theorem dX0_layByLine_109 : decode cX0_layByLine 109 = .ok (.return_, 1) := by decide +kernel
theorem dX0_addLineEnd_0 : decode cX0_addLineEnd 0 = .ok (.aload_n 0, 1) := by decide +kernel
theorem dX0_addLineEnd_1 : decode cX0_addLineEnd 1 = .ok (.getfield 28, 3) := by decide +kernel
theorem dX0_addLineEnd_4 : decode cX0_addLineEnd 4 = .ok (.iconst 2, 1) := by decide +kernel
theorem dX0_addLineEnd_5 : decode cX0_addLineEnd 5 = .ok (.irem, 1) := by decide +kernel
theorem dX0_addLineEnd_6 : decode cX0_addLineEnd 6 = .ok (.iconst 1, 1) := by decide +kernel
theorem dX0_addLineEnd_7 : decode cX0_addLineEnd 7 = .ok (.if_icmp .ne 7, 3) := by decide +kernel
theorem dX0_addLineEnd_10 : decode cX0_addLineEnd 10 = .ok (.iconst 1, 1) := by decide +kernel
theorem dX0_addLineEnd_11 : decode cX0_addLineEnd 11 = .ok (.goto 4, 3) := by decide +kernel
theorem dX0_addLineEnd_14 : decode cX0_addLineEnd 14 = .ok (.iconst 0, 1) := by decide +kernel
theorem dX0_addLineEnd_15 : decode cX0_addLineEnd 15 = .ok (.istore_n 2, 1) := by decide +kernel
theorem dX0_addLineEnd_16 : decode cX0_addLineEnd 16 = .ok (.aload_n 0, 1) := by decide +kernel
theorem dX0_addLineEnd_17 : decode cX0_addLineEnd 17 = .ok (.getfield 28, 3) := by decide +kernel
theorem dX0_addLineEnd_20 : decode cX0_addLineEnd 20 = .ok (.ifCond .le 16, 3) := by decide +kernel
theorem dX0_addLineEnd_23 : decode cX0_addLineEnd 23 = .ok (.aload_n 1, 1) := by decide +kernel
theorem dX0_addLineEnd_24 : decode cX0_addLineEnd 24 = .ok (.iload_n 2, 1) := by decide +kernel
theorem dX0_addLineEnd_25 : decode cX0_addLineEnd 25 = .ok (.ifCond .ne 7, 3) := by decide +kernel
theorem dX0_addLineEnd_28 : decode cX0_addLineEnd 28 = .ok (.iconst 1, 1) := by decide +kernel
theorem dX0_addLineEnd_29 : decode cX0_addLineEnd 29 = .ok (.goto 4, 3) := by decide +kernel
theorem dX0_addLineEnd_32 : decode cX0_addLineEnd 32 = .ok (.iconst 0, 1) := by decide +kernel
theorem dX0_addLineEnd_33 : decode cX0_addLineEnd 33 = .ok (.invokevirtual 35, 3) := by decide +kernel
theorem dX0_addLineEnd_36 : decode cX0_addLineEnd 36 = .ok (.aload_n 1, 1) := by decide +kernel
theorem dX0_addLineEnd_37 : decode cX0_addLineEnd 37 = .ok (.iload_n 2, 1) := by decide +kernel
theorem dX0_addLineEnd_38 : decode cX0_addLineEnd 38 = .ok (.invokevirtual 35, 3) := by decide +kernel
theorem dX0_addLineEnd_41 : decode cX0_addLineEnd 41 = .ok (.return_, 1) := by decide +kernel
theorem dX1_textOf_0 : decode cX1_textOf 0 = .ok (.new 9, 3) := by decide +kernel
theorem dX1_textOf_3 : decode cX1_textOf 3 = .ok (.dup, 1) := by decide +kernel
theorem dX1_textOf_4 : decode cX1_textOf 4 = .ok (.invokespecial 11, 3) := by decide +kernel
theorem dX1_textOf_7 : decode cX1_textOf 7 = .ok (.astore_n 1, 1) := by decide +kernel
theorem dX1_textOf_8 : decode cX1_textOf 8 = .ok (.iconst 0, 1) := by decide +kernel
theorem dX1_textOf_9 : decode cX1_textOf 9 = .ok (.istore_n 2, 1) := by decide +kernel
theorem dX1_textOf_10 : decode cX1_textOf 10 = .ok (.iload_n 2, 1) := by decide +kernel
theorem dX1_textOf_11 : decode cX1_textOf 11 = .ok (.aload_n 0, 1) := by decide +kernel
theorem dX1_textOf_12 : decode cX1_textOf 12 = .ok (.getfield 12, 3) := by decide +kernel
theorem dX1_textOf_15 : decode cX1_textOf 15 = .ok (.if_icmp .ge 29, 3) := by decide +kernel
theorem dX1_textOf_18 : decode cX1_textOf 18 = .ok (.aload_n 1, 1) := by decide +kernel
theorem dX1_textOf_19 : decode cX1_textOf 19 = .ok (.aload_n 0, 1) := by decide +kernel
theorem dX1_textOf_20 : decode cX1_textOf 20 = .ok (.iload_n 2, 1) := by decide +kernel
theorem dX1_textOf_21 : decode cX1_textOf 21 = .ok (.invokevirtual 18, 3) := by decide +kernel
theorem dX1_textOf_24 : decode cX1_textOf 24 = .ok (.ifCond .eq 8, 3) := by decide +kernel
theorem dX1_textOf_27 : decode cX1_textOf 27 = .ok (.bipush 98, 2) := by decide +kernel
theorem dX1_textOf_29 : decode cX1_textOf 29 = .ok (.goto 5, 3) := by decide +kernel
theorem dX1_textOf_32 : decode cX1_textOf 32 = .ok (.bipush 97, 2) := by decide +kernel
theorem dX1_textOf_34 : decode cX1_textOf 34 = .ok (.invokevirtual 22, 3) := by decide +kernel
theorem dX1_textOf_37 : decode cX1_textOf 37 = .ok (.pop, 1) := by decide +kernel
theorem dX1_textOf_38 : decode cX1_textOf 38 = .ok (.iinc 2 1, 3) := by decide +kernel
theorem dX1_textOf_41 : decode cX1_textOf 41 = .ok (.goto (-31), 3) := by decide +kernel
theorem dX1_textOf_44 : decode cX1_textOf 44 = .ok (.aload_n 1, 1) := by decide +kernel
theorem dX1_textOf_45 : decode cX1_textOf 45 = .ok (.invokevirtual 26, 3) := by decide +kernel
theorem dX1_textOf_48 : decode cX1_textOf 48 = .ok (.areturn, 1) := by decide +kernel
theorem dX1_isUpOnRing_0 : decode cX1_isUpOnRing 0 = .ok (.aload_n 0, 1) := by decide +kernel
theorem dX1_isUpOnRing_1 : decode cX1_isUpOnRing 1 = .ok (.iload_n 1, 1) := by decide +kernel
theorem dX1_isUpOnRing_2 : decode cX1_isUpOnRing 2 = .ok (.aload_n 0, 1) := by decide +kernel
theorem dX1_isUpOnRing_3 : decode cX1_isUpOnRing 3 = .ok (.getfield 12, 3) := by decide +kernel
theorem dX1_isUpOnRing_6 : decode cX1_isUpOnRing 6 = .ok (.if_icmp .ge 7, 3) := by decide +kernel
theorem dX1_isUpOnRing_9 : decode cX1_isUpOnRing 9 = .ok (.iload_n 1, 1) := by decide +kernel
theorem dX1_isUpOnRing_10 : decode cX1_isUpOnRing 10 = .ok (.goto 9, 3) := by decide +kernel
theorem dX1_isUpOnRing_13 : decode cX1_isUpOnRing 13 = .ok (.iload_n 1, 1) := by decide +kernel
theorem dX1_isUpOnRing_14 : decode cX1_isUpOnRing 14 = .ok (.aload_n 0, 1) := by decide +kernel
theorem dX1_isUpOnRing_15 : decode cX1_isUpOnRing 15 = .ok (.getfield 12, 3) := by decide +kernel
theorem dX1_isUpOnRing_18 : decode cX1_isUpOnRing 18 = .ok (.isub, 1) := by decide +kernel
theorem dX1_isUpOnRing_19 : decode cX1_isUpOnRing 19 = .ok (.invokevirtual 18, 3) := by decide +kernel
theorem dX1_isUpOnRing_22 : decode cX1_isUpOnRing 22 = .ok (.ireturn, 1) := by decide +kernel
theorem dX1_upsInPart_0 : decode cX1_upsInPart 0 = .ok (.iconst 0, 1) := by decide +kernel
theorem dX1_upsInPart_1 : decode cX1_upsInPart 1 = .ok (.istore_n 3, 1) := by decide +kernel
theorem dX1_upsInPart_2 : decode cX1_upsInPart 2 = .ok (.iload_n 1, 1) := by decide +kernel
theorem dX1_upsInPart_3 : decode cX1_upsInPart 3 = .ok (.istore 4, 2) := by decide +kernel
theorem dX1_upsInPart_5 : decode cX1_upsInPart 5 = .ok (.iload 4, 2) := by decide +kernel
theorem dX1_upsInPart_7 : decode cX1_upsInPart 7 = .ok (.iload_n 1, 1) := by decide +kernel
theorem dX1_upsInPart_8 : decode cX1_upsInPart 8 = .ok (.iload_n 2, 1) := by decide +kernel
theorem dX1_upsInPart_9 : decode cX1_upsInPart 9 = .ok (.iadd, 1) := by decide +kernel
theorem dX1_upsInPart_10 : decode cX1_upsInPart 10 = .ok (.if_icmp .ge 21, 3) := by decide +kernel
theorem dX1_upsInPart_13 : decode cX1_upsInPart 13 = .ok (.aload_n 0, 1) := by decide +kernel
theorem dX1_upsInPart_14 : decode cX1_upsInPart 14 = .ok (.iload 4, 2) := by decide +kernel
theorem dX1_upsInPart_16 : decode cX1_upsInPart 16 = .ok (.invokestatic 30, 3) := by decide +kernel
theorem dX1_upsInPart_19 : decode cX1_upsInPart 19 = .ok (.ifCond .eq 6, 3) := by decide +kernel
theorem dX1_upsInPart_22 : decode cX1_upsInPart 22 = .ok (.iinc 3 1, 3) := by decide +kernel
theorem dX1_upsInPart_25 : decode cX1_upsInPart 25 = .ok (.iinc 4 1, 3) := by decide +kernel
theorem dX1_upsInPart_28 : decode cX1_upsInPart 28 = .ok (.goto (-23), 3) := by decide +kernel
theorem dX1_upsInPart_31 : decode cX1_upsInPart 31 = .ok (.iload_n 3, 1) := by decide +kernel
theorem dX1_upsInPart_32 : decode cX1_upsInPart 32 = .ok (.ireturn, 1) := by decide +kernel
theorem dX1_upsOf_0 : decode cX1_upsOf 0 = .ok (.iconst 0, 1) := by decide +kernel
theorem dX1_upsOf_1 : decode cX1_upsOf 1 = .ok (.istore_n 1, 1) := by decide +kernel
theorem dX1_upsOf_2 : decode cX1_upsOf 2 = .ok (.iconst 0, 1) := by decide +kernel
theorem dX1_upsOf_3 : decode cX1_upsOf 3 = .ok (.istore_n 2, 1) := by decide +kernel
theorem dX1_upsOf_4 : decode cX1_upsOf 4 = .ok (.iload_n 2, 1) := by decide +kernel
theorem dX1_upsOf_5 : decode cX1_upsOf 5 = .ok (.aload_n 0, 1) := by decide +kernel
theorem dX1_upsOf_6 : decode cX1_upsOf 6 = .ok (.getfield 12, 3) := by decide +kernel
theorem dX1_upsOf_9 : decode cX1_upsOf 9 = .ok (.if_icmp .ge 20, 3) := by decide +kernel
theorem dX1_upsOf_12 : decode cX1_upsOf 12 = .ok (.aload_n 0, 1) := by decide +kernel
theorem dX1_upsOf_13 : decode cX1_upsOf 13 = .ok (.iload_n 2, 1) := by decide +kernel
theorem dX1_upsOf_14 : decode cX1_upsOf 14 = .ok (.invokevirtual 18, 3) := by decide +kernel
theorem dX1_upsOf_17 : decode cX1_upsOf 17 = .ok (.ifCond .eq 6, 3) := by decide +kernel
theorem dX1_upsOf_20 : decode cX1_upsOf 20 = .ok (.iinc 1 1, 3) := by decide +kernel
theorem dX1_upsOf_23 : decode cX1_upsOf 23 = .ok (.iinc 2 1, 3) := by decide +kernel
theorem dX1_upsOf_26 : decode cX1_upsOf 26 = .ok (.goto (-22), 3) := by decide +kernel
theorem dX1_upsOf_29 : decode cX1_upsOf 29 = .ok (.iload_n 1, 1) := by decide +kernel
theorem dX1_upsOf_30 : decode cX1_upsOf 30 = .ok (.ireturn, 1) := by decide +kernel
theorem dX1_standsAt_0 : decode cX1_standsAt 0 = .ok (.iload_n 1, 1) := by decide +kernel
theorem dX1_standsAt_1 : decode cX1_standsAt 1 = .ok (.aload_n 2, 1) := by decide +kernel
theorem dX1_standsAt_2 : decode cX1_standsAt 2 = .ok (.getfield 12, 3) := by decide +kernel
theorem dX1_standsAt_5 : decode cX1_standsAt 5 = .ok (.iadd, 1) := by decide +kernel
theorem dX1_standsAt_6 : decode cX1_standsAt 6 = .ok (.aload_n 0, 1) := by decide +kernel
theorem dX1_standsAt_7 : decode cX1_standsAt 7 = .ok (.getfield 12, 3) := by decide +kernel
theorem dX1_standsAt_10 : decode cX1_standsAt 10 = .ok (.if_icmp .le 5, 3) := by decide +kernel
theorem dX1_standsAt_13 : decode cX1_standsAt 13 = .ok (.iconst 0, 1) := by decide +kernel
theorem dX1_standsAt_14 : decode cX1_standsAt 14 = .ok (.ireturn, 1) := by decide +kernel
theorem dX1_standsAt_15 : decode cX1_standsAt 15 = .ok (.iconst 0, 1) := by decide +kernel
theorem dX1_standsAt_16 : decode cX1_standsAt 16 = .ok (.istore_n 3, 1) := by decide +kernel
theorem dX1_standsAt_17 : decode cX1_standsAt 17 = .ok (.iload_n 3, 1) := by decide +kernel
theorem dX1_standsAt_18 : decode cX1_standsAt 18 = .ok (.aload_n 2, 1) := by decide +kernel
theorem dX1_standsAt_19 : decode cX1_standsAt 19 = .ok (.getfield 12, 3) := by decide +kernel
theorem dX1_standsAt_22 : decode cX1_standsAt 22 = .ok (.if_icmp .ge 26, 3) := by decide +kernel
theorem dX1_standsAt_25 : decode cX1_standsAt 25 = .ok (.aload_n 0, 1) := by decide +kernel
theorem dX1_standsAt_26 : decode cX1_standsAt 26 = .ok (.iload_n 1, 1) := by decide +kernel
theorem dX1_standsAt_27 : decode cX1_standsAt 27 = .ok (.iload_n 3, 1) := by decide +kernel
theorem dX1_standsAt_28 : decode cX1_standsAt 28 = .ok (.iadd, 1) := by decide +kernel
theorem dX1_standsAt_29 : decode cX1_standsAt 29 = .ok (.invokevirtual 18, 3) := by decide +kernel
theorem dX1_standsAt_32 : decode cX1_standsAt 32 = .ok (.aload_n 2, 1) := by decide +kernel
theorem dX1_standsAt_33 : decode cX1_standsAt 33 = .ok (.iload_n 3, 1) := by decide +kernel
theorem dX1_standsAt_34 : decode cX1_standsAt 34 = .ok (.invokevirtual 18, 3) := by decide +kernel
theorem dX1_standsAt_37 : decode cX1_standsAt 37 = .ok (.if_icmp .eq 5, 3) := by decide +kernel
theorem dX1_standsAt_40 : decode cX1_standsAt 40 = .ok (.iconst 0, 1) := by decide +kernel
theorem dX1_standsAt_41 : decode cX1_standsAt 41 = .ok (.ireturn, 1) := by decide +kernel
theorem dX1_standsAt_42 : decode cX1_standsAt 42 = .ok (.iinc 3 1, 3) := by decide +kernel
theorem dX1_standsAt_45 : decode cX1_standsAt 45 = .ok (.goto (-28), 3) := by decide +kernel
theorem dX1_standsAt_48 : decode cX1_standsAt 48 = .ok (.iconst 1, 1) := by decide +kernel
theorem dX1_standsAt_49 : decode cX1_standsAt 49 = .ok (.ireturn, 1) := by decide +kernel
theorem dX1_orderOf_0 : decode cX1_orderOf 0 = .ok (.aload_n 0, 1) := by decide +kernel
theorem dX1_orderOf_1 : decode cX1_orderOf 1 = .ok (.getfield 12, 3) := by decide +kernel
theorem dX1_orderOf_4 : decode cX1_orderOf 4 = .ok (.aload_n 1, 1) := by decide +kernel
theorem dX1_orderOf_5 : decode cX1_orderOf 5 = .ok (.getfield 12, 3) := by decide +kernel
theorem dX1_orderOf_8 : decode cX1_orderOf 8 = .ok (.invokestatic 36, 3) := by decide +kernel
theorem dX1_orderOf_11 : decode cX1_orderOf 11 = .ok (.istore_n 2, 1) := by decide +kernel
theorem dX1_orderOf_12 : decode cX1_orderOf 12 = .ok (.iconst 0, 1) := by decide +kernel
theorem dX1_orderOf_13 : decode cX1_orderOf 13 = .ok (.istore_n 3, 1) := by decide +kernel
theorem dX1_orderOf_14 : decode cX1_orderOf 14 = .ok (.iload_n 3, 1) := by decide +kernel
theorem dX1_orderOf_15 : decode cX1_orderOf 15 = .ok (.iload_n 2, 1) := by decide +kernel
theorem dX1_orderOf_16 : decode cX1_orderOf 16 = .ok (.if_icmp .ge 36, 3) := by decide +kernel
theorem dX1_orderOf_19 : decode cX1_orderOf 19 = .ok (.aload_n 0, 1) := by decide +kernel
theorem dX1_orderOf_20 : decode cX1_orderOf 20 = .ok (.iload_n 3, 1) := by decide +kernel
theorem dX1_orderOf_21 : decode cX1_orderOf 21 = .ok (.invokevirtual 18, 3) := by decide +kernel
theorem dX1_orderOf_24 : decode cX1_orderOf 24 = .ok (.aload_n 1, 1) := by decide +kernel
theorem dX1_orderOf_25 : decode cX1_orderOf 25 = .ok (.iload_n 3, 1) := by decide +kernel
theorem dX1_orderOf_26 : decode cX1_orderOf 26 = .ok (.invokevirtual 18, 3) := by decide +kernel
theorem dX1_orderOf_29 : decode cX1_orderOf 29 = .ok (.if_icmp .eq 17, 3) := by decide +kernel
theorem dX1_orderOf_32 : decode cX1_orderOf 32 = .ok (.aload_n 1, 1) := by decide +kernel
theorem dX1_orderOf_33 : decode cX1_orderOf 33 = .ok (.iload_n 3, 1) := by decide +kernel
theorem dX1_orderOf_34 : decode cX1_orderOf 34 = .ok (.invokevirtual 18, 3) := by decide +kernel
theorem dX1_orderOf_37 : decode cX1_orderOf 37 = .ok (.ifCond .eq 7, 3) := by decide +kernel
theorem dX1_orderOf_40 : decode cX1_orderOf 40 = .ok (.iconst (-1), 1) := by decide +kernel
theorem dX1_orderOf_41 : decode cX1_orderOf 41 = .ok (.goto 4, 3) := by decide +kernel
theorem dX1_orderOf_44 : decode cX1_orderOf 44 = .ok (.iconst 1, 1) := by decide +kernel
theorem dX1_orderOf_45 : decode cX1_orderOf 45 = .ok (.ireturn, 1) := by decide +kernel
theorem dX1_orderOf_46 : decode cX1_orderOf 46 = .ok (.iinc 3 1, 3) := by decide +kernel
theorem dX1_orderOf_49 : decode cX1_orderOf 49 = .ok (.goto (-35), 3) := by decide +kernel
theorem dX1_orderOf_52 : decode cX1_orderOf 52 = .ok (.aload_n 0, 1) := by decide +kernel
theorem dX1_orderOf_53 : decode cX1_orderOf 53 = .ok (.getfield 12, 3) := by decide +kernel
theorem dX1_orderOf_56 : decode cX1_orderOf 56 = .ok (.aload_n 1, 1) := by decide +kernel
theorem dX1_orderOf_57 : decode cX1_orderOf 57 = .ok (.getfield 12, 3) := by decide +kernel
theorem dX1_orderOf_60 : decode cX1_orderOf 60 = .ok (.invokestatic 42, 3) := by decide +kernel
theorem dX1_orderOf_63 : decode cX1_orderOf 63 = .ok (.ireturn, 1) := by decide +kernel
theorem dX1_ringOrder_0 : decode cX1_ringOrder 0 = .ok (.iconst 0, 1) := by decide +kernel
theorem dX1_ringOrder_1 : decode cX1_ringOrder 1 = .ok (.istore 4, 2) := by decide +kernel
theorem dX1_ringOrder_3 : decode cX1_ringOrder 3 = .ok (.iload 4, 2) := by decide +kernel
theorem dX1_ringOrder_5 : decode cX1_ringOrder 5 = .ok (.iload_n 3, 1) := by decide +kernel
theorem dX1_ringOrder_6 : decode cX1_ringOrder 6 = .ok (.if_icmp .ge 43, 3) := by decide +kernel
theorem dX1_ringOrder_9 : decode cX1_ringOrder 9 = .ok (.aload_n 0, 1) := by decide +kernel
theorem dX1_ringOrder_10 : decode cX1_ringOrder 10 = .ok (.iload_n 1, 1) := by decide +kernel
theorem dX1_ringOrder_11 : decode cX1_ringOrder 11 = .ok (.iload 4, 2) := by decide +kernel
theorem dX1_ringOrder_13 : decode cX1_ringOrder 13 = .ok (.iadd, 1) := by decide +kernel
theorem dX1_ringOrder_14 : decode cX1_ringOrder 14 = .ok (.invokestatic 30, 3) := by decide +kernel
theorem dX1_ringOrder_17 : decode cX1_ringOrder 17 = .ok (.istore 5, 2) := by decide +kernel
theorem dX1_ringOrder_19 : decode cX1_ringOrder 19 = .ok (.iload 5, 2) := by decide +kernel
theorem dX1_ringOrder_21 : decode cX1_ringOrder 21 = .ok (.aload_n 0, 1) := by decide +kernel
theorem dX1_ringOrder_22 : decode cX1_ringOrder 22 = .ok (.iload_n 2, 1) := by decide +kernel
theorem dX1_ringOrder_23 : decode cX1_ringOrder 23 = .ok (.iload 4, 2) := by decide +kernel
theorem dX1_ringOrder_25 : decode cX1_ringOrder 25 = .ok (.iadd, 1) := by decide +kernel
theorem dX1_ringOrder_26 : decode cX1_ringOrder 26 = .ok (.invokestatic 30, 3) := by decide +kernel
theorem dX1_ringOrder_29 : decode cX1_ringOrder 29 = .ok (.if_icmp .eq 14, 3) := by decide +kernel
theorem dX1_ringOrder_32 : decode cX1_ringOrder 32 = .ok (.iload 5, 2) := by decide +kernel
theorem dX1_ringOrder_34 : decode cX1_ringOrder 34 = .ok (.ifCond .eq 7, 3) := by decide +kernel
theorem dX1_ringOrder_37 : decode cX1_ringOrder 37 = .ok (.iconst 1, 1) := by decide +kernel
theorem dX1_ringOrder_38 : decode cX1_ringOrder 38 = .ok (.goto 4, 3) := by decide +kernel
theorem dX1_ringOrder_41 : decode cX1_ringOrder 41 = .ok (.iconst (-1), 1) := by decide +kernel
theorem dX1_ringOrder_42 : decode cX1_ringOrder 42 = .ok (.ireturn, 1) := by decide +kernel
theorem dX1_ringOrder_43 : decode cX1_ringOrder 43 = .ok (.iinc 4 1, 3) := by decide +kernel
theorem dX1_ringOrder_46 : decode cX1_ringOrder 46 = .ok (.goto (-43), 3) := by decide +kernel
theorem dX1_ringOrder_49 : decode cX1_ringOrder 49 = .ok (.iconst 0, 1) := by decide +kernel
theorem dX1_ringOrder_50 : decode cX1_ringOrder 50 = .ok (.ireturn, 1) := by decide +kernel
theorem dX1_isMirroredPart_0 : decode cX1_isMirroredPart 0 = .ok (.iconst 0, 1) := by decide +kernel
theorem dX1_isMirroredPart_1 : decode cX1_isMirroredPart 1 = .ok (.istore_n 3, 1) := by decide +kernel
theorem dX1_isMirroredPart_2 : decode cX1_isMirroredPart 2 = .ok (.iload_n 3, 1) := by decide +kernel
theorem dX1_isMirroredPart_3 : decode cX1_isMirroredPart 3 = .ok (.iload_n 2, 1) := by decide +kernel
theorem dX1_isMirroredPart_4 : decode cX1_isMirroredPart 4 = .ok (.iconst 2, 1) := by decide +kernel
theorem dX1_isMirroredPart_5 : decode cX1_isMirroredPart 5 = .ok (.idiv, 1) := by decide +kernel
theorem dX1_isMirroredPart_6 : decode cX1_isMirroredPart 6 = .ok (.if_icmp .ge 32, 3) := by decide +kernel
theorem dX1_isMirroredPart_9 : decode cX1_isMirroredPart 9 = .ok (.aload_n 0, 1) := by decide +kernel
theorem dX1_isMirroredPart_10 : decode cX1_isMirroredPart 10 = .ok (.iload_n 1, 1) := by decide +kernel
theorem dX1_isMirroredPart_11 : decode cX1_isMirroredPart 11 = .ok (.iload_n 3, 1) := by decide +kernel
theorem dX1_isMirroredPart_12 : decode cX1_isMirroredPart 12 = .ok (.iadd, 1) := by decide +kernel
theorem dX1_isMirroredPart_13 : decode cX1_isMirroredPart 13 = .ok (.invokevirtual 18, 3) := by decide +kernel
theorem dX1_isMirroredPart_16 : decode cX1_isMirroredPart 16 = .ok (.aload_n 0, 1) := by decide +kernel
theorem dX1_isMirroredPart_17 : decode cX1_isMirroredPart 17 = .ok (.iload_n 1, 1) := by decide +kernel
theorem dX1_isMirroredPart_18 : decode cX1_isMirroredPart 18 = .ok (.iload_n 2, 1) := by decide +kernel
theorem dX1_isMirroredPart_19 : decode cX1_isMirroredPart 19 = .ok (.iadd, 1) := by decide +kernel
theorem dX1_isMirroredPart_20 : decode cX1_isMirroredPart 20 = .ok (.iconst 1, 1) := by decide +kernel
theorem dX1_isMirroredPart_21 : decode cX1_isMirroredPart 21 = .ok (.isub, 1) := by decide +kernel
theorem dX1_isMirroredPart_22 : decode cX1_isMirroredPart 22 = .ok (.iload_n 3, 1) := by decide +kernel
theorem dX1_isMirroredPart_23 : decode cX1_isMirroredPart 23 = .ok (.isub, 1) := by decide +kernel
theorem dX1_isMirroredPart_24 : decode cX1_isMirroredPart 24 = .ok (.invokevirtual 18, 3) := by decide +kernel
theorem dX1_isMirroredPart_27 : decode cX1_isMirroredPart 27 = .ok (.if_icmp .eq 5, 3) := by decide +kernel
theorem dX1_isMirroredPart_30 : decode cX1_isMirroredPart 30 = .ok (.iconst 0, 1) := by decide +kernel
theorem dX1_isMirroredPart_31 : decode cX1_isMirroredPart 31 = .ok (.ireturn, 1) := by decide +kernel
theorem dX1_isMirroredPart_32 : decode cX1_isMirroredPart 32 = .ok (.iinc 3 1, 3) := by decide +kernel
theorem dX1_isMirroredPart_35 : decode cX1_isMirroredPart 35 = .ok (.goto (-33), 3) := by decide +kernel
theorem dX1_isMirroredPart_38 : decode cX1_isMirroredPart 38 = .ok (.iconst 1, 1) := by decide +kernel
theorem dX1_isMirroredPart_39 : decode cX1_isMirroredPart 39 = .ok (.ireturn, 1) := by decide +kernel
theorem dX1_beginnings_0 : decode cX1_beginnings 0 = .ok (.iload_n 2, 1) := by decide +kernel
theorem dX1_beginnings_1 : decode cX1_beginnings 1 = .ok (.ifCond .eq 14, 3) := by decide +kernel
theorem dX1_beginnings_4 : decode cX1_beginnings 4 = .ok (.aload_n 0, 1) := by decide +kernel
theorem dX1_beginnings_5 : decode cX1_beginnings 5 = .ok (.getfield 12, 3) := by decide +kernel
theorem dX1_beginnings_8 : decode cX1_beginnings 8 = .ok (.iconst 1, 1) := by decide +kernel
theorem dX1_beginnings_9 : decode cX1_beginnings 9 = .ok (.invokestatic 47, 3) := by decide +kernel
theorem dX1_beginnings_12 : decode cX1_beginnings 12 = .ok (.goto 11, 3) := by decide +kernel
theorem dX1_beginnings_15 : decode cX1_beginnings 15 = .ok (.aload_n 0, 1) := by decide +kernel
theorem dX1_beginnings_16 : decode cX1_beginnings 16 = .ok (.getfield 12, 3) := by decide +kernel
theorem dX1_beginnings_19 : decode cX1_beginnings 19 = .ok (.iload_n 1, 1) := by decide +kernel
theorem dX1_beginnings_20 : decode cX1_beginnings 20 = .ok (.isub, 1) := by decide +kernel
theorem dX1_beginnings_21 : decode cX1_beginnings 21 = .ok (.iconst 1, 1) := by decide +kernel
theorem dX1_beginnings_22 : decode cX1_beginnings 22 = .ok (.iadd, 1) := by decide +kernel
theorem dX1_beginnings_23 : decode cX1_beginnings 23 = .ok (.ireturn, 1) := by decide +kernel
theorem dX1_spreadOf_0 : decode cX1_spreadOf 0 = .ok (.iconst 0, 1) := by decide +kernel
theorem dX1_spreadOf_1 : decode cX1_spreadOf 1 = .ok (.istore_n 3, 1) := by decide +kernel
theorem dX1_spreadOf_2 : decode cX1_spreadOf 2 = .ok (.iload_n 1, 1) := by decide +kernel
theorem dX1_spreadOf_3 : decode cX1_spreadOf 3 = .ok (.istore 4, 2) := by decide +kernel
theorem dX1_spreadOf_5 : decode cX1_spreadOf 5 = .ok (.aload_n 0, 1) := by decide +kernel
theorem dX1_spreadOf_6 : decode cX1_spreadOf 6 = .ok (.iload_n 1, 1) := by decide +kernel
theorem dX1_spreadOf_7 : decode cX1_spreadOf 7 = .ok (.iload_n 2, 1) := by decide +kernel
theorem dX1_spreadOf_8 : decode cX1_spreadOf 8 = .ok (.invokestatic 50, 3) := by decide +kernel
theorem dX1_spreadOf_11 : decode cX1_spreadOf 11 = .ok (.istore 5, 2) := by decide +kernel
theorem dX1_spreadOf_13 : decode cX1_spreadOf 13 = .ok (.iconst 0, 1) := by decide +kernel
theorem dX1_spreadOf_14 : decode cX1_spreadOf 14 = .ok (.istore 6, 2) := by decide +kernel
theorem dX1_spreadOf_16 : decode cX1_spreadOf 16 = .ok (.iload 6, 2) := by decide +kernel
theorem dX1_spreadOf_18 : decode cX1_spreadOf 18 = .ok (.iload 5, 2) := by decide +kernel
theorem dX1_spreadOf_20 : decode cX1_spreadOf 20 = .ok (.if_icmp .ge 34, 3) := by decide +kernel
theorem dX1_spreadOf_23 : decode cX1_spreadOf 23 = .ok (.aload_n 0, 1) := by decide +kernel
theorem dX1_spreadOf_24 : decode cX1_spreadOf 24 = .ok (.iload 6, 2) := by decide +kernel
theorem dX1_spreadOf_26 : decode cX1_spreadOf 26 = .ok (.iload_n 1, 1) := by decide +kernel
theorem dX1_spreadOf_27 : decode cX1_spreadOf 27 = .ok (.invokestatic 54, 3) := by decide +kernel
theorem dX1_spreadOf_30 : decode cX1_spreadOf 30 = .ok (.istore 7, 2) := by decide +kernel
theorem dX1_spreadOf_32 : decode cX1_spreadOf 32 = .ok (.iload_n 3, 1) := by decide +kernel
theorem dX1_spreadOf_33 : decode cX1_spreadOf 33 = .ok (.iload 7, 2) := by decide +kernel
theorem dX1_spreadOf_35 : decode cX1_spreadOf 35 = .ok (.invokestatic 47, 3) := by decide +kernel
theorem dX1_spreadOf_38 : decode cX1_spreadOf 38 = .ok (.istore_n 3, 1) := by decide +kernel
theorem dX1_spreadOf_39 : decode cX1_spreadOf 39 = .ok (.iload 4, 2) := by decide +kernel
theorem dX1_spreadOf_41 : decode cX1_spreadOf 41 = .ok (.iload 7, 2) := by decide +kernel
theorem dX1_spreadOf_43 : decode cX1_spreadOf 43 = .ok (.invokestatic 36, 3) := by decide +kernel
theorem dX1_spreadOf_46 : decode cX1_spreadOf 46 = .ok (.istore 4, 2) := by decide +kernel
theorem dX1_spreadOf_48 : decode cX1_spreadOf 48 = .ok (.iinc 6 1, 3) := by decide +kernel
theorem dX1_spreadOf_51 : decode cX1_spreadOf 51 = .ok (.goto (-35), 3) := by decide +kernel
theorem dX1_spreadOf_54 : decode cX1_spreadOf 54 = .ok (.iload_n 3, 1) := by decide +kernel
theorem dX1_spreadOf_55 : decode cX1_spreadOf 55 = .ok (.iload 4, 2) := by decide +kernel
theorem dX1_spreadOf_57 : decode cX1_spreadOf 57 = .ok (.isub, 1) := by decide +kernel
theorem dX1_spreadOf_58 : decode cX1_spreadOf 58 = .ok (.ireturn, 1) := by decide +kernel
theorem dX1_isReadEarlier_0 : decode cX1_isReadEarlier 0 = .ok (.iconst 0, 1) := by decide +kernel
theorem dX1_isReadEarlier_1 : decode cX1_isReadEarlier 1 = .ok (.istore_n 3, 1) := by decide +kernel
theorem dX1_isReadEarlier_2 : decode cX1_isReadEarlier 2 = .ok (.iload_n 3, 1) := by decide +kernel
theorem dX1_isReadEarlier_3 : decode cX1_isReadEarlier 3 = .ok (.iload_n 1, 1) := by decide +kernel
theorem dX1_isReadEarlier_4 : decode cX1_isReadEarlier 4 = .ok (.if_icmp .ge 21, 3) := by decide +kernel
theorem dX1_isReadEarlier_7 : decode cX1_isReadEarlier 7 = .ok (.aload_n 0, 1) := by decide +kernel
theorem dX1_isReadEarlier_8 : decode cX1_isReadEarlier 8 = .ok (.iload_n 3, 1) := by decide +kernel
theorem dX1_isReadEarlier_9 : decode cX1_isReadEarlier 9 = .ok (.iload_n 1, 1) := by decide +kernel
theorem dX1_isReadEarlier_10 : decode cX1_isReadEarlier 10 = .ok (.iload_n 2, 1) := by decide +kernel
theorem dX1_isReadEarlier_11 : decode cX1_isReadEarlier 11 = .ok (.invokestatic 58, 3) := by decide +kernel
theorem dX1_isReadEarlier_14 : decode cX1_isReadEarlier 14 = .ok (.ifCond .ne 5, 3) := by decide +kernel
theorem dX1_isReadEarlier_17 : decode cX1_isReadEarlier 17 = .ok (.iconst 1, 1) := by decide +kernel
theorem dX1_isReadEarlier_18 : decode cX1_isReadEarlier 18 = .ok (.ireturn, 1) := by decide +kernel
theorem dX1_isReadEarlier_19 : decode cX1_isReadEarlier 19 = .ok (.iinc 3 1, 3) := by decide +kernel
theorem dX1_isReadEarlier_22 : decode cX1_isReadEarlier 22 = .ok (.goto (-20), 3) := by decide +kernel
theorem dX1_isReadEarlier_25 : decode cX1_isReadEarlier 25 = .ok (.iconst 0, 1) := by decide +kernel
theorem dX1_isReadEarlier_26 : decode cX1_isReadEarlier 26 = .ok (.ireturn, 1) := by decide +kernel
theorem dX1_kindsOf_0 : decode cX1_kindsOf 0 = .ok (.iconst 0, 1) := by decide +kernel
theorem dX1_kindsOf_1 : decode cX1_kindsOf 1 = .ok (.istore_n 3, 1) := by decide +kernel
theorem dX1_kindsOf_2 : decode cX1_kindsOf 2 = .ok (.aload_n 0, 1) := by decide +kernel
theorem dX1_kindsOf_3 : decode cX1_kindsOf 3 = .ok (.iload_n 1, 1) := by decide +kernel
theorem dX1_kindsOf_4 : decode cX1_kindsOf 4 = .ok (.iload_n 2, 1) := by decide +kernel
theorem dX1_kindsOf_5 : decode cX1_kindsOf 5 = .ok (.invokestatic 50, 3) := by decide +kernel
theorem dX1_kindsOf_8 : decode cX1_kindsOf 8 = .ok (.istore 4, 2) := by decide +kernel
theorem dX1_kindsOf_10 : decode cX1_kindsOf 10 = .ok (.iconst 0, 1) := by decide +kernel
theorem dX1_kindsOf_11 : decode cX1_kindsOf 11 = .ok (.istore 5, 2) := by decide +kernel
theorem dX1_kindsOf_13 : decode cX1_kindsOf 13 = .ok (.iload 5, 2) := by decide +kernel
theorem dX1_kindsOf_15 : decode cX1_kindsOf 15 = .ok (.iload 4, 2) := by decide +kernel
theorem dX1_kindsOf_17 : decode cX1_kindsOf 17 = .ok (.if_icmp .ge 22, 3) := by decide +kernel
theorem dX1_kindsOf_20 : decode cX1_kindsOf 20 = .ok (.aload_n 0, 1) := by decide +kernel
theorem dX1_kindsOf_21 : decode cX1_kindsOf 21 = .ok (.iload 5, 2) := by decide +kernel
theorem dX1_kindsOf_23 : decode cX1_kindsOf 23 = .ok (.iload_n 1, 1) := by decide +kernel
theorem dX1_kindsOf_24 : decode cX1_kindsOf 24 = .ok (.invokestatic 62, 3) := by decide +kernel
theorem dX1_kindsOf_27 : decode cX1_kindsOf 27 = .ok (.ifCond .ne 6, 3) := by decide +kernel
theorem dX1_kindsOf_30 : decode cX1_kindsOf 30 = .ok (.iinc 3 1, 3) := by decide +kernel
theorem dX1_kindsOf_33 : decode cX1_kindsOf 33 = .ok (.iinc 5 1, 3) := by decide +kernel
theorem dX1_kindsOf_36 : decode cX1_kindsOf 36 = .ok (.goto (-23), 3) := by decide +kernel
theorem dX1_kindsOf_39 : decode cX1_kindsOf 39 = .ok (.iload_n 3, 1) := by decide +kernel
theorem dX1_kindsOf_40 : decode cX1_kindsOf 40 = .ok (.ireturn, 1) := by decide +kernel
theorem dX1_timesOf_0 : decode cX1_timesOf 0 = .ok (.iconst 0, 1) := by decide +kernel
theorem dX1_timesOf_1 : decode cX1_timesOf 1 = .ok (.istore_n 1, 1) := by decide +kernel
theorem dX1_timesOf_2 : decode cX1_timesOf 2 = .ok (.iconst 1, 1) := by decide +kernel
theorem dX1_timesOf_3 : decode cX1_timesOf 3 = .ok (.istore_n 2, 1) := by decide +kernel
theorem dX1_timesOf_4 : decode cX1_timesOf 4 = .ok (.iload_n 2, 1) := by decide +kernel
theorem dX1_timesOf_5 : decode cX1_timesOf 5 = .ok (.aload_n 0, 1) := by decide +kernel
theorem dX1_timesOf_6 : decode cX1_timesOf 6 = .ok (.getfield 12, 3) := by decide +kernel
theorem dX1_timesOf_9 : decode cX1_timesOf 9 = .ok (.if_icmp .gt 19, 3) := by decide +kernel
theorem dX1_timesOf_12 : decode cX1_timesOf 12 = .ok (.iload_n 1, 1) := by decide +kernel
theorem dX1_timesOf_13 : decode cX1_timesOf 13 = .ok (.aload_n 0, 1) := by decide +kernel
theorem dX1_timesOf_14 : decode cX1_timesOf 14 = .ok (.iload_n 2, 1) := by decide +kernel
theorem dX1_timesOf_15 : decode cX1_timesOf 15 = .ok (.invokestatic 66, 3) := by decide +kernel
theorem dX1_timesOf_18 : decode cX1_timesOf 18 = .ok (.invokestatic 47, 3) := by decide +kernel
theorem dX1_timesOf_21 : decode cX1_timesOf 21 = .ok (.istore_n 1, 1) := by decide +kernel
theorem dX1_timesOf_22 : decode cX1_timesOf 22 = .ok (.iinc 2 1, 3) := by decide +kernel
theorem dX1_timesOf_25 : decode cX1_timesOf 25 = .ok (.goto (-21), 3) := by decide +kernel
theorem dX1_timesOf_28 : decode cX1_timesOf 28 = .ok (.iload_n 1, 1) := by decide +kernel
theorem dX1_timesOf_29 : decode cX1_timesOf 29 = .ok (.ireturn, 1) := by decide +kernel
theorem dX1_timesWith_0 : decode cX1_timesWith 0 = .ok (.iconst 0, 1) := by decide +kernel
theorem dX1_timesWith_1 : decode cX1_timesWith 1 = .ok (.istore_n 2, 1) := by decide +kernel
theorem dX1_timesWith_2 : decode cX1_timesWith 2 = .ok (.iconst 0, 1) := by decide +kernel
theorem dX1_timesWith_3 : decode cX1_timesWith 3 = .ok (.istore_n 3, 1) := by decide +kernel
theorem dX1_timesWith_4 : decode cX1_timesWith 4 = .ok (.iconst 0, 1) := by decide +kernel
theorem dX1_timesWith_5 : decode cX1_timesWith 5 = .ok (.istore 4, 2) := by decide +kernel
theorem dX1_timesWith_7 : decode cX1_timesWith 7 = .ok (.iload 4, 2) := by decide +kernel
theorem dX1_timesWith_9 : decode cX1_timesWith 9 = .ok (.iload_n 1, 1) := by decide +kernel
theorem dX1_timesWith_10 : decode cX1_timesWith 10 = .ok (.iadd, 1) := by decide +kernel
theorem dX1_timesWith_11 : decode cX1_timesWith 11 = .ok (.aload_n 0, 1) := by decide +kernel
theorem dX1_timesWith_12 : decode cX1_timesWith 12 = .ok (.getfield 12, 3) := by decide +kernel
theorem dX1_timesWith_15 : decode cX1_timesWith 15 = .ok (.if_icmp .ge 40, 3) := by decide +kernel
theorem dX1_timesWith_18 : decode cX1_timesWith 18 = .ok (.aload_n 0, 1) := by decide +kernel
theorem dX1_timesWith_19 : decode cX1_timesWith 19 = .ok (.iload 4, 2) := by decide +kernel
theorem dX1_timesWith_21 : decode cX1_timesWith 21 = .ok (.invokevirtual 18, 3) := by decide +kernel
theorem dX1_timesWith_24 : decode cX1_timesWith 24 = .ok (.aload_n 0, 1) := by decide +kernel
theorem dX1_timesWith_25 : decode cX1_timesWith 25 = .ok (.iload 4, 2) := by decide +kernel
theorem dX1_timesWith_27 : decode cX1_timesWith 27 = .ok (.iload_n 1, 1) := by decide +kernel
theorem dX1_timesWith_28 : decode cX1_timesWith 28 = .ok (.iadd, 1) := by decide +kernel
theorem dX1_timesWith_29 : decode cX1_timesWith 29 = .ok (.invokevirtual 18, 3) := by decide +kernel
theorem dX1_timesWith_32 : decode cX1_timesWith 32 = .ok (.if_icmp .ne 9, 3) := by decide +kernel
theorem dX1_timesWith_35 : decode cX1_timesWith 35 = .ok (.iload_n 2, 1) := by decide +kernel
theorem dX1_timesWith_36 : decode cX1_timesWith 36 = .ok (.iconst 1, 1) := by decide +kernel
theorem dX1_timesWith_37 : decode cX1_timesWith 37 = .ok (.iadd, 1) := by decide +kernel
theorem dX1_timesWith_38 : decode cX1_timesWith 38 = .ok (.goto 4, 3) := by decide +kernel
theorem dX1_timesWith_41 : decode cX1_timesWith 41 = .ok (.iconst 0, 1) := by decide +kernel
theorem dX1_timesWith_42 : decode cX1_timesWith 42 = .ok (.istore_n 2, 1) := by decide +kernel
theorem dX1_timesWith_43 : decode cX1_timesWith 43 = .ok (.iload_n 3, 1) := by decide +kernel
theorem dX1_timesWith_44 : decode cX1_timesWith 44 = .ok (.iload_n 2, 1) := by decide +kernel
theorem dX1_timesWith_45 : decode cX1_timesWith 45 = .ok (.invokestatic 47, 3) := by decide +kernel
theorem dX1_timesWith_48 : decode cX1_timesWith 48 = .ok (.istore_n 3, 1) := by decide +kernel
theorem dX1_timesWith_49 : decode cX1_timesWith 49 = .ok (.iinc 4 1, 3) := by decide +kernel
theorem dX1_timesWith_52 : decode cX1_timesWith 52 = .ok (.goto (-45), 3) := by decide +kernel
theorem dX1_timesWith_55 : decode cX1_timesWith 55 = .ok (.iload_n 1, 1) := by decide +kernel
theorem dX1_timesWith_56 : decode cX1_timesWith 56 = .ok (.ifCond .le 11, 3) := by decide +kernel
theorem dX1_timesWith_59 : decode cX1_timesWith 59 = .ok (.iload_n 3, 1) := by decide +kernel
theorem dX1_timesWith_60 : decode cX1_timesWith 60 = .ok (.iload_n 1, 1) := by decide +kernel
theorem dX1_timesWith_61 : decode cX1_timesWith 61 = .ok (.idiv, 1) := by decide +kernel
theorem dX1_timesWith_62 : decode cX1_timesWith 62 = .ok (.iconst 1, 1) := by decide +kernel
theorem dX1_timesWith_63 : decode cX1_timesWith 63 = .ok (.iadd, 1) := by decide +kernel
theorem dX1_timesWith_64 : decode cX1_timesWith 64 = .ok (.goto 4, 3) := by decide +kernel
theorem dX1_timesWith_67 : decode cX1_timesWith 67 = .ok (.iconst 1, 1) := by decide +kernel
theorem dX1_timesWith_68 : decode cX1_timesWith 68 = .ok (.ireturn, 1) := by decide +kernel
theorem dX1_overlapsOf_0 : decode cX1_overlapsOf 0 = .ok (.iconst 0, 1) := by decide +kernel
theorem dX1_overlapsOf_1 : decode cX1_overlapsOf 1 = .ok (.istore_n 1, 1) := by decide +kernel
theorem dX1_overlapsOf_2 : decode cX1_overlapsOf 2 = .ok (.iconst 1, 1) := by decide +kernel
theorem dX1_overlapsOf_3 : decode cX1_overlapsOf 3 = .ok (.istore_n 2, 1) := by decide +kernel
theorem dX1_overlapsOf_4 : decode cX1_overlapsOf 4 = .ok (.iload_n 2, 1) := by decide +kernel
theorem dX1_overlapsOf_5 : decode cX1_overlapsOf 5 = .ok (.aload_n 0, 1) := by decide +kernel
theorem dX1_overlapsOf_6 : decode cX1_overlapsOf 6 = .ok (.getfield 12, 3) := by decide +kernel
theorem dX1_overlapsOf_9 : decode cX1_overlapsOf 9 = .ok (.if_icmp .ge 41, 3) := by decide +kernel
theorem dX1_overlapsOf_12 : decode cX1_overlapsOf 12 = .ok (.iconst 0, 1) := by decide +kernel
theorem dX1_overlapsOf_13 : decode cX1_overlapsOf 13 = .ok (.istore_n 3, 1) := by decide +kernel
theorem dX1_overlapsOf_14 : decode cX1_overlapsOf 14 = .ok (.iload_n 3, 1) := by decide +kernel
theorem dX1_overlapsOf_15 : decode cX1_overlapsOf 15 = .ok (.iconst 2, 1) := by decide +kernel
theorem dX1_overlapsOf_16 : decode cX1_overlapsOf 16 = .ok (.iload_n 2, 1) := by decide +kernel
theorem dX1_overlapsOf_17 : decode cX1_overlapsOf 17 = .ok (.imul, 1) := by decide +kernel
theorem dX1_overlapsOf_18 : decode cX1_overlapsOf 18 = .ok (.iadd, 1) := by decide +kernel
theorem dX1_overlapsOf_19 : decode cX1_overlapsOf 19 = .ok (.aload_n 0, 1) := by decide +kernel
theorem dX1_overlapsOf_20 : decode cX1_overlapsOf 20 = .ok (.getfield 12, 3) := by decide +kernel
theorem dX1_overlapsOf_23 : decode cX1_overlapsOf 23 = .ok (.if_icmp .ge 21, 3) := by decide +kernel
theorem dX1_overlapsOf_26 : decode cX1_overlapsOf 26 = .ok (.aload_n 0, 1) := by decide +kernel
theorem dX1_overlapsOf_27 : decode cX1_overlapsOf 27 = .ok (.iload_n 3, 1) := by decide +kernel
theorem dX1_overlapsOf_28 : decode cX1_overlapsOf 28 = .ok (.iload_n 2, 1) := by decide +kernel
theorem dX1_overlapsOf_29 : decode cX1_overlapsOf 29 = .ok (.invokestatic 70, 3) := by decide +kernel
theorem dX1_overlapsOf_32 : decode cX1_overlapsOf 32 = .ok (.ifCond .eq 6, 3) := by decide +kernel
theorem dX1_overlapsOf_35 : decode cX1_overlapsOf 35 = .ok (.iinc 1 1, 3) := by decide +kernel
theorem dX1_overlapsOf_38 : decode cX1_overlapsOf 38 = .ok (.iinc 3 1, 3) := by decide +kernel
theorem dX1_overlapsOf_41 : decode cX1_overlapsOf 41 = .ok (.goto (-27), 3) := by decide +kernel
theorem dX1_overlapsOf_44 : decode cX1_overlapsOf 44 = .ok (.iinc 2 1, 3) := by decide +kernel
theorem dX1_overlapsOf_47 : decode cX1_overlapsOf 47 = .ok (.goto (-43), 3) := by decide +kernel
theorem dX1_overlapsOf_50 : decode cX1_overlapsOf 50 = .ok (.iload_n 1, 1) := by decide +kernel
theorem dX1_overlapsOf_51 : decode cX1_overlapsOf 51 = .ok (.ireturn, 1) := by decide +kernel
theorem dX1_isOverlap_0 : decode cX1_isOverlap 0 = .ok (.iload_n 1, 1) := by decide +kernel
theorem dX1_isOverlap_1 : decode cX1_isOverlap 1 = .ok (.istore_n 3, 1) := by decide +kernel
theorem dX1_isOverlap_2 : decode cX1_isOverlap 2 = .ok (.iload_n 3, 1) := by decide +kernel
theorem dX1_isOverlap_3 : decode cX1_isOverlap 3 = .ok (.iload_n 1, 1) := by decide +kernel
theorem dX1_isOverlap_4 : decode cX1_isOverlap 4 = .ok (.iload_n 2, 1) := by decide +kernel
theorem dX1_isOverlap_5 : decode cX1_isOverlap 5 = .ok (.iadd, 1) := by decide +kernel
theorem dX1_isOverlap_6 : decode cX1_isOverlap 6 = .ok (.if_icmp .gt 26, 3) := by decide +kernel
theorem dX1_isOverlap_9 : decode cX1_isOverlap 9 = .ok (.aload_n 0, 1) := by decide +kernel
theorem dX1_isOverlap_10 : decode cX1_isOverlap 10 = .ok (.iload_n 3, 1) := by decide +kernel
theorem dX1_isOverlap_11 : decode cX1_isOverlap 11 = .ok (.invokevirtual 18, 3) := by decide +kernel
theorem dX1_isOverlap_14 : decode cX1_isOverlap 14 = .ok (.aload_n 0, 1) := by decide +kernel
theorem dX1_isOverlap_15 : decode cX1_isOverlap 15 = .ok (.iload_n 3, 1) := by decide +kernel
theorem dX1_isOverlap_16 : decode cX1_isOverlap 16 = .ok (.iload_n 2, 1) := by decide +kernel
theorem dX1_isOverlap_17 : decode cX1_isOverlap 17 = .ok (.iadd, 1) := by decide +kernel
theorem dX1_isOverlap_18 : decode cX1_isOverlap 18 = .ok (.invokevirtual 18, 3) := by decide +kernel
theorem dX1_isOverlap_21 : decode cX1_isOverlap 21 = .ok (.if_icmp .eq 5, 3) := by decide +kernel
theorem dX1_isOverlap_24 : decode cX1_isOverlap 24 = .ok (.iconst 0, 1) := by decide +kernel
theorem dX1_isOverlap_25 : decode cX1_isOverlap 25 = .ok (.ireturn, 1) := by decide +kernel
theorem dX1_isOverlap_26 : decode cX1_isOverlap 26 = .ok (.iinc 3 1, 3) := by decide +kernel
theorem dX1_isOverlap_29 : decode cX1_isOverlap 29 = .ok (.goto (-27), 3) := by decide +kernel
theorem dX1_isOverlap_32 : decode cX1_isOverlap 32 = .ok (.iconst 1, 1) := by decide +kernel
theorem dX1_isOverlap_33 : decode cX1_isOverlap 33 = .ok (.ireturn, 1) := by decide +kernel
theorem dX1_mirrorsOf_0 : decode cX1_mirrorsOf 0 = .ok (.iconst 0, 1) := by decide +kernel
theorem dX1_mirrorsOf_1 : decode cX1_mirrorsOf 1 = .ok (.istore_n 1, 1) := by decide +kernel
theorem dX1_mirrorsOf_2 : decode cX1_mirrorsOf 2 = .ok (.iconst 0, 1) := by decide +kernel
theorem dX1_mirrorsOf_3 : decode cX1_mirrorsOf 3 = .ok (.istore_n 2, 1) := by decide +kernel
theorem dX1_mirrorsOf_4 : decode cX1_mirrorsOf 4 = .ok (.iload_n 2, 1) := by decide +kernel
theorem dX1_mirrorsOf_5 : decode cX1_mirrorsOf 5 = .ok (.aload_n 0, 1) := by decide +kernel
theorem dX1_mirrorsOf_6 : decode cX1_mirrorsOf 6 = .ok (.getfield 12, 3) := by decide +kernel
theorem dX1_mirrorsOf_9 : decode cX1_mirrorsOf 9 = .ok (.if_icmp .ge 48, 3) := by decide +kernel
theorem dX1_mirrorsOf_12 : decode cX1_mirrorsOf 12 = .ok (.iconst 1, 1) := by decide +kernel
theorem dX1_mirrorsOf_13 : decode cX1_mirrorsOf 13 = .ok (.istore_n 3, 1) := by decide +kernel
theorem dX1_mirrorsOf_14 : decode cX1_mirrorsOf 14 = .ok (.iload_n 3, 1) := by decide +kernel
theorem dX1_mirrorsOf_15 : decode cX1_mirrorsOf 15 = .ok (.aload_n 0, 1) := by decide +kernel
theorem dX1_mirrorsOf_16 : decode cX1_mirrorsOf 16 = .ok (.getfield 12, 3) := by decide +kernel
theorem dX1_mirrorsOf_19 : decode cX1_mirrorsOf 19 = .ok (.iload_n 2, 1) := by decide +kernel
theorem dX1_mirrorsOf_20 : decode cX1_mirrorsOf 20 = .ok (.isub, 1) := by decide +kernel
theorem dX1_mirrorsOf_21 : decode cX1_mirrorsOf 21 = .ok (.if_icmp .gt 30, 3) := by decide +kernel
theorem dX1_mirrorsOf_24 : decode cX1_mirrorsOf 24 = .ok (.aload_n 0, 1) := by decide +kernel
theorem dX1_mirrorsOf_25 : decode cX1_mirrorsOf 25 = .ok (.iload_n 2, 1) := by decide +kernel
theorem dX1_mirrorsOf_26 : decode cX1_mirrorsOf 26 = .ok (.iload_n 3, 1) := by decide +kernel
theorem dX1_mirrorsOf_27 : decode cX1_mirrorsOf 27 = .ok (.invokestatic 73, 3) := by decide +kernel
theorem dX1_mirrorsOf_30 : decode cX1_mirrorsOf 30 = .ok (.ifCond .eq 15, 3) := by decide +kernel
theorem dX1_mirrorsOf_33 : decode cX1_mirrorsOf 33 = .ok (.aload_n 0, 1) := by decide +kernel
theorem dX1_mirrorsOf_34 : decode cX1_mirrorsOf 34 = .ok (.iload_n 2, 1) := by decide +kernel
theorem dX1_mirrorsOf_35 : decode cX1_mirrorsOf 35 = .ok (.iload_n 3, 1) := by decide +kernel
theorem dX1_mirrorsOf_36 : decode cX1_mirrorsOf 36 = .ok (.invokestatic 62, 3) := by decide +kernel
theorem dX1_mirrorsOf_39 : decode cX1_mirrorsOf 39 = .ok (.ifCond .ne 6, 3) := by decide +kernel
theorem dX1_mirrorsOf_42 : decode cX1_mirrorsOf 42 = .ok (.iinc 1 1, 3) := by decide +kernel
theorem dX1_mirrorsOf_45 : decode cX1_mirrorsOf 45 = .ok (.iinc 3 1, 3) := by decide +kernel
theorem dX1_mirrorsOf_48 : decode cX1_mirrorsOf 48 = .ok (.goto (-34), 3) := by decide +kernel
theorem dX1_mirrorsOf_51 : decode cX1_mirrorsOf 51 = .ok (.iinc 2 1, 3) := by decide +kernel
theorem dX1_mirrorsOf_54 : decode cX1_mirrorsOf 54 = .ok (.goto (-50), 3) := by decide +kernel
theorem dX1_mirrorsOf_57 : decode cX1_mirrorsOf 57 = .ok (.iload_n 1, 1) := by decide +kernel
theorem dX1_mirrorsOf_58 : decode cX1_mirrorsOf 58 = .ok (.ireturn, 1) := by decide +kernel
theorem dX1_foldsOf_0 : decode cX1_foldsOf 0 = .ok (.iconst 0, 1) := by decide +kernel
theorem dX1_foldsOf_1 : decode cX1_foldsOf 1 = .ok (.istore_n 1, 1) := by decide +kernel
theorem dX1_foldsOf_2 : decode cX1_foldsOf 2 = .ok (.iconst 0, 1) := by decide +kernel
theorem dX1_foldsOf_3 : decode cX1_foldsOf 3 = .ok (.istore_n 2, 1) := by decide +kernel
theorem dX1_foldsOf_4 : decode cX1_foldsOf 4 = .ok (.iload_n 2, 1) := by decide +kernel
theorem dX1_foldsOf_5 : decode cX1_foldsOf 5 = .ok (.aload_n 0, 1) := by decide +kernel
theorem dX1_foldsOf_6 : decode cX1_foldsOf 6 = .ok (.getfield 12, 3) := by decide +kernel
theorem dX1_foldsOf_9 : decode cX1_foldsOf 9 = .ok (.if_icmp .ge 35, 3) := by decide +kernel
theorem dX1_foldsOf_12 : decode cX1_foldsOf 12 = .ok (.aload_n 0, 1) := by decide +kernel
theorem dX1_foldsOf_13 : decode cX1_foldsOf 13 = .ok (.iconst 0, 1) := by decide +kernel
theorem dX1_foldsOf_14 : decode cX1_foldsOf 14 = .ok (.iload_n 2, 1) := by decide +kernel
theorem dX1_foldsOf_15 : decode cX1_foldsOf 15 = .ok (.invokestatic 73, 3) := by decide +kernel
theorem dX1_foldsOf_18 : decode cX1_foldsOf 18 = .ok (.ifCond .eq 20, 3) := by decide +kernel
theorem dX1_foldsOf_21 : decode cX1_foldsOf 21 = .ok (.aload_n 0, 1) := by decide +kernel
theorem dX1_foldsOf_22 : decode cX1_foldsOf 22 = .ok (.iload_n 2, 1) := by decide +kernel
theorem dX1_foldsOf_23 : decode cX1_foldsOf 23 = .ok (.aload_n 0, 1) := by decide +kernel
theorem dX1_foldsOf_24 : decode cX1_foldsOf 24 = .ok (.getfield 12, 3) := by decide +kernel
theorem dX1_foldsOf_27 : decode cX1_foldsOf 27 = .ok (.iload_n 2, 1) := by decide +kernel
theorem dX1_foldsOf_28 : decode cX1_foldsOf 28 = .ok (.isub, 1) := by decide +kernel
theorem dX1_foldsOf_29 : decode cX1_foldsOf 29 = .ok (.invokestatic 73, 3) := by decide +kernel
theorem dX1_foldsOf_32 : decode cX1_foldsOf 32 = .ok (.ifCond .eq 6, 3) := by decide +kernel
theorem dX1_foldsOf_35 : decode cX1_foldsOf 35 = .ok (.iinc 1 1, 3) := by decide +kernel
theorem dX1_foldsOf_38 : decode cX1_foldsOf 38 = .ok (.iinc 2 1, 3) := by decide +kernel
theorem dX1_foldsOf_41 : decode cX1_foldsOf 41 = .ok (.goto (-37), 3) := by decide +kernel
theorem dX1_foldsOf_44 : decode cX1_foldsOf 44 = .ok (.iload_n 1, 1) := by decide +kernel
theorem dX1_foldsOf_45 : decode cX1_foldsOf 45 = .ok (.ireturn, 1) := by decide +kernel
theorem dX1_leastOf_0 : decode cX1_leastOf 0 = .ok (.iconst 0, 1) := by decide +kernel
theorem dX1_leastOf_1 : decode cX1_leastOf 1 = .ok (.istore_n 1, 1) := by decide +kernel
theorem dX1_leastOf_2 : decode cX1_leastOf 2 = .ok (.iconst 1, 1) := by decide +kernel
theorem dX1_leastOf_3 : decode cX1_leastOf 3 = .ok (.istore_n 2, 1) := by decide +kernel
theorem dX1_leastOf_4 : decode cX1_leastOf 4 = .ok (.iload_n 2, 1) := by decide +kernel
theorem dX1_leastOf_5 : decode cX1_leastOf 5 = .ok (.aload_n 0, 1) := by decide +kernel
theorem dX1_leastOf_6 : decode cX1_leastOf 6 = .ok (.getfield 12, 3) := by decide +kernel
theorem dX1_leastOf_9 : decode cX1_leastOf 9 = .ok (.if_icmp .ge 24, 3) := by decide +kernel
theorem dX1_leastOf_12 : decode cX1_leastOf 12 = .ok (.aload_n 0, 1) := by decide +kernel
theorem dX1_leastOf_13 : decode cX1_leastOf 13 = .ok (.iload_n 2, 1) := by decide +kernel
theorem dX1_leastOf_14 : decode cX1_leastOf 14 = .ok (.iload_n 1, 1) := by decide +kernel
theorem dX1_leastOf_15 : decode cX1_leastOf 15 = .ok (.aload_n 0, 1) := by decide +kernel
theorem dX1_leastOf_16 : decode cX1_leastOf 16 = .ok (.getfield 12, 3) := by decide +kernel
theorem dX1_leastOf_19 : decode cX1_leastOf 19 = .ok (.invokestatic 58, 3) := by decide +kernel
theorem dX1_leastOf_22 : decode cX1_leastOf 22 = .ok (.ifCond .ge 5, 3) := by decide +kernel
theorem dX1_leastOf_25 : decode cX1_leastOf 25 = .ok (.iload_n 2, 1) := by decide +kernel
theorem dX1_leastOf_26 : decode cX1_leastOf 26 = .ok (.istore_n 1, 1) := by decide +kernel
theorem dX1_leastOf_27 : decode cX1_leastOf 27 = .ok (.iinc 2 1, 3) := by decide +kernel
theorem dX1_leastOf_30 : decode cX1_leastOf 30 = .ok (.goto (-26), 3) := by decide +kernel
theorem dX1_leastOf_33 : decode cX1_leastOf 33 = .ok (.iload_n 1, 1) := by decide +kernel
theorem dX1_leastOf_34 : decode cX1_leastOf 34 = .ok (.ireturn, 1) := by decide +kernel
theorem dX1_firstUnlikeJoined_0 : decode cX1_firstUnlikeJoined 0 = .ok (.iconst 0, 1) := by decide +kernel
theorem dX1_firstUnlikeJoined_1 : decode cX1_firstUnlikeJoined 1 = .ok (.istore_n 2, 1) := by decide +kernel
theorem dX1_firstUnlikeJoined_2 : decode cX1_firstUnlikeJoined 2 = .ok (.iload_n 2, 1) := by decide +kernel
theorem dX1_firstUnlikeJoined_3 : decode cX1_firstUnlikeJoined 3 = .ok (.aload_n 0, 1) := by decide +kernel
theorem dX1_firstUnlikeJoined_4 : decode cX1_firstUnlikeJoined 4 = .ok (.getfield 12, 3) := by decide +kernel
theorem dX1_firstUnlikeJoined_7 : decode cX1_firstUnlikeJoined 7 = .ok (.aload_n 1, 1) := by decide +kernel
theorem dX1_firstUnlikeJoined_8 : decode cX1_firstUnlikeJoined 8 = .ok (.getfield 12, 3) := by decide +kernel
theorem dX1_firstUnlikeJoined_11 : decode cX1_firstUnlikeJoined 11 = .ok (.iadd, 1) := by decide +kernel
theorem dX1_firstUnlikeJoined_12 : decode cX1_firstUnlikeJoined 12 = .ok (.if_icmp .ge 26, 3) := by decide +kernel
theorem dX1_firstUnlikeJoined_15 : decode cX1_firstUnlikeJoined 15 = .ok (.aload_n 0, 1) := by decide +kernel
theorem dX1_firstUnlikeJoined_16 : decode cX1_firstUnlikeJoined 16 = .ok (.aload_n 1, 1) := by decide +kernel
theorem dX1_firstUnlikeJoined_17 : decode cX1_firstUnlikeJoined 17 = .ok (.iload_n 2, 1) := by decide +kernel
theorem dX1_firstUnlikeJoined_18 : decode cX1_firstUnlikeJoined 18 = .ok (.invokestatic 76, 3) := by decide +kernel
theorem dX1_firstUnlikeJoined_21 : decode cX1_firstUnlikeJoined 21 = .ok (.aload_n 1, 1) := by decide +kernel
theorem dX1_firstUnlikeJoined_22 : decode cX1_firstUnlikeJoined 22 = .ok (.aload_n 0, 1) := by decide +kernel
theorem dX1_firstUnlikeJoined_23 : decode cX1_firstUnlikeJoined 23 = .ok (.iload_n 2, 1) := by decide +kernel
theorem dX1_firstUnlikeJoined_24 : decode cX1_firstUnlikeJoined 24 = .ok (.invokestatic 76, 3) := by decide +kernel
theorem dX1_firstUnlikeJoined_27 : decode cX1_firstUnlikeJoined 27 = .ok (.if_icmp .eq 5, 3) := by decide +kernel
theorem dX1_firstUnlikeJoined_30 : decode cX1_firstUnlikeJoined 30 = .ok (.iload_n 2, 1) := by decide +kernel
theorem dX1_firstUnlikeJoined_31 : decode cX1_firstUnlikeJoined 31 = .ok (.ireturn, 1) := by decide +kernel
theorem dX1_firstUnlikeJoined_32 : decode cX1_firstUnlikeJoined 32 = .ok (.iinc 2 1, 3) := by decide +kernel
theorem dX1_firstUnlikeJoined_35 : decode cX1_firstUnlikeJoined 35 = .ok (.goto (-33), 3) := by decide +kernel
theorem dX1_firstUnlikeJoined_38 : decode cX1_firstUnlikeJoined 38 = .ok (.iconst (-1), 1) := by decide +kernel
theorem dX1_firstUnlikeJoined_39 : decode cX1_firstUnlikeJoined 39 = .ok (.ireturn, 1) := by decide +kernel
theorem dX1_isUpJoined_0 : decode cX1_isUpJoined 0 = .ok (.iload_n 2, 1) := by decide +kernel
theorem dX1_isUpJoined_1 : decode cX1_isUpJoined 1 = .ok (.aload_n 0, 1) := by decide +kernel
theorem dX1_isUpJoined_2 : decode cX1_isUpJoined 2 = .ok (.getfield 12, 3) := by decide +kernel
theorem dX1_isUpJoined_5 : decode cX1_isUpJoined 5 = .ok (.if_icmp .ge 11, 3) := by decide +kernel
theorem dX1_isUpJoined_8 : decode cX1_isUpJoined 8 = .ok (.aload_n 0, 1) := by decide +kernel
theorem dX1_isUpJoined_9 : decode cX1_isUpJoined 9 = .ok (.iload_n 2, 1) := by decide +kernel
theorem dX1_isUpJoined_10 : decode cX1_isUpJoined 10 = .ok (.invokevirtual 18, 3) := by decide +kernel
theorem dX1_isUpJoined_13 : decode cX1_isUpJoined 13 = .ok (.goto 13, 3) := by decide +kernel
theorem dX1_isUpJoined_16 : decode cX1_isUpJoined 16 = .ok (.aload_n 1, 1) := by decide +kernel
theorem dX1_isUpJoined_17 : decode cX1_isUpJoined 17 = .ok (.iload_n 2, 1) := by decide +kernel
theorem dX1_isUpJoined_18 : decode cX1_isUpJoined 18 = .ok (.aload_n 0, 1) := by decide +kernel
theorem dX1_isUpJoined_19 : decode cX1_isUpJoined 19 = .ok (.getfield 12, 3) := by decide +kernel
theorem dX1_isUpJoined_22 : decode cX1_isUpJoined 22 = .ok (.isub, 1) := by decide +kernel
theorem dX1_isUpJoined_23 : decode cX1_isUpJoined 23 = .ok (.invokevirtual 18, 3) := by decide +kernel
theorem dX1_isUpJoined_26 : decode cX1_isUpJoined 26 = .ok (.ireturn, 1) := by decide +kernel
theorem dX2_init_0 : decode cX2_init 0 = .ok (.aload_n 0, 1) := by decide +kernel
theorem dX2_init_1 : decode cX2_init 1 = .ok (.invokespecial 3, 3) := by decide +kernel
theorem dX2_init_4 : decode cX2_init 4 = .ok (.aload_n 0, 1) := by decide +kernel
theorem dX2_init_5 : decode cX2_init 5 = .ok (.new 9, 3) := by decide +kernel
theorem dX2_init_8 : decode cX2_init 8 = .ok (.dup, 1) := by decide +kernel
theorem dX2_init_9 : decode cX2_init 9 = .ok (.invokespecial 11, 3) := by decide +kernel
theorem dX2_init_12 : decode cX2_init 12 = .ok (.putfield 12, 3) := by decide +kernel
theorem dX2_init_15 : decode cX2_init 15 = .ok (.aload_n 0, 1) := by decide +kernel
theorem dX2_init_16 : decode cX2_init 16 = .ok (.new 9, 3) := by decide +kernel
theorem dX2_init_19 : decode cX2_init 19 = .ok (.dup, 1) := by decide +kernel
theorem dX2_init_20 : decode cX2_init 20 = .ok (.invokespecial 11, 3) := by decide +kernel
theorem dX2_init_23 : decode cX2_init 23 = .ok (.putfield 18, 3) := by decide +kernel
theorem dX2_init_26 : decode cX2_init 26 = .ok (.aload_n 0, 1) := by decide +kernel
theorem dX2_init_27 : decode cX2_init 27 = .ok (.bipush 65, 2) := by decide +kernel
theorem dX2_init_29 : decode cX2_init 29 = .ok (.newarray .boolean, 2) := by decide +kernel
theorem dX2_init_31 : decode cX2_init 31 = .ok (.putfield 21, 3) := by decide +kernel
theorem dX2_init_34 : decode cX2_init 34 = .ok (.return_, 1) := by decide +kernel
theorem dX2_take_0 : decode cX2_take 0 = .ok (.aload_n 0, 1) := by decide +kernel
theorem dX2_take_1 : decode cX2_take 1 = .ok (.getfield 12, 3) := by decide +kernel
theorem dX2_take_4 : decode cX2_take 4 = .ok (.iload_n 1, 1) := by decide +kernel
theorem dX2_take_5 : decode cX2_take 5 = .ok (.invokevirtual 25, 3) := by decide +kernel
theorem dX2_take_8 : decode cX2_take 8 = .ok (.aload_n 0, 1) := by decide +kernel
theorem dX2_take_9 : decode cX2_take 9 = .ok (.getfield 18, 3) := by decide +kernel
theorem dX2_take_12 : decode cX2_take 12 = .ok (.iload_n 2, 1) := by decide +kernel
theorem dX2_take_13 : decode cX2_take 13 = .ok (.invokevirtual 25, 3) := by decide +kernel
theorem dX2_take_16 : decode cX2_take 16 = .ok (.return_, 1) := by decide +kernel
theorem dX2_keepsApart_0 : decode cX2_keepsApart 0 = .ok (.aload_n 0, 1) := by decide +kernel
theorem dX2_keepsApart_1 : decode cX2_keepsApart 1 = .ok (.getfield 12, 3) := by decide +kernel
theorem dX2_keepsApart_4 : decode cX2_keepsApart 4 = .ok (.aload_n 0, 1) := by decide +kernel
theorem dX2_keepsApart_5 : decode cX2_keepsApart 5 = .ok (.getfield 18, 3) := by decide +kernel
theorem dX2_keepsApart_8 : decode cX2_keepsApart 8 = .ok (.invokestatic 29, 3) := by decide +kernel
theorem dX2_keepsApart_11 : decode cX2_keepsApart 11 = .ok (.iconst (-1), 1) := by decide +kernel
theorem dX2_keepsApart_12 : decode cX2_keepsApart 12 = .ok (.if_icmp .eq 7, 3) := by decide +kernel
theorem dX2_keepsApart_15 : decode cX2_keepsApart 15 = .ok (.iconst 1, 1) := by decide +kernel
theorem dX2_keepsApart_16 : decode cX2_keepsApart 16 = .ok (.goto 4, 3) := by decide +kernel
theorem dX2_keepsApart_19 : decode cX2_keepsApart 19 = .ok (.iconst 0, 1) := by decide +kernel
theorem dX2_keepsApart_20 : decode cX2_keepsApart 20 = .ok (.ireturn, 1) := by decide +kernel
theorem dX2_imageLength_0 : decode cX2_imageLength 0 = .ok (.aload_n 1, 1) := by decide +kernel
theorem dX2_imageLength_1 : decode cX2_imageLength 1 = .ok (.invokestatic 35, 3) := by decide +kernel
theorem dX2_imageLength_4 : decode cX2_imageLength 4 = .ok (.istore_n 2, 1) := by decide +kernel
theorem dX2_imageLength_5 : decode cX2_imageLength 5 = .ok (.aload_n 1, 1) := by decide +kernel
theorem dX2_imageLength_6 : decode cX2_imageLength 6 = .ok (.getfield 39, 3) := by decide +kernel
theorem dX2_imageLength_9 : decode cX2_imageLength 9 = .ok (.iload_n 2, 1) := by decide +kernel
theorem dX2_imageLength_10 : decode cX2_imageLength 10 = .ok (.isub, 1) := by decide +kernel
theorem dX2_imageLength_11 : decode cX2_imageLength 11 = .ok (.aload_n 0, 1) := by decide +kernel
theorem dX2_imageLength_12 : decode cX2_imageLength 12 = .ok (.getfield 12, 3) := by decide +kernel
theorem dX2_imageLength_15 : decode cX2_imageLength 15 = .ok (.getfield 39, 3) := by decide +kernel
theorem dX2_imageLength_18 : decode cX2_imageLength 18 = .ok (.imul, 1) := by decide +kernel
theorem dX2_imageLength_19 : decode cX2_imageLength 19 = .ok (.iload_n 2, 1) := by decide +kernel
theorem dX2_imageLength_20 : decode cX2_imageLength 20 = .ok (.aload_n 0, 1) := by decide +kernel
theorem dX2_imageLength_21 : decode cX2_imageLength 21 = .ok (.getfield 18, 3) := by decide +kernel
theorem dX2_imageLength_24 : decode cX2_imageLength 24 = .ok (.getfield 39, 3) := by decide +kernel
theorem dX2_imageLength_27 : decode cX2_imageLength 27 = .ok (.imul, 1) := by decide +kernel
theorem dX2_imageLength_28 : decode cX2_imageLength 28 = .ok (.iadd, 1) := by decide +kernel
theorem dX2_imageLength_29 : decode cX2_imageLength 29 = .ok (.ireturn, 1) := by decide +kernel
theorem dX2_layImage_0 : decode cX2_layImage 0 = .ok (.aload_n 2, 1) := by decide +kernel
theorem dX2_layImage_1 : decode cX2_layImage 1 = .ok (.invokevirtual 43, 3) := by decide +kernel
theorem dX2_layImage_4 : decode cX2_layImage 4 = .ok (.iconst 0, 1) := by decide +kernel
theorem dX2_layImage_5 : decode cX2_layImage 5 = .ok (.istore_n 3, 1) := by decide +kernel
theorem dX2_layImage_6 : decode cX2_layImage 6 = .ok (.iload_n 3, 1) := by decide +kernel
theorem dX2_layImage_7 : decode cX2_layImage 7 = .ok (.aload_n 1, 1) := by decide +kernel
theorem dX2_layImage_8 : decode cX2_layImage 8 = .ok (.getfield 39, 3) := by decide +kernel
theorem dX2_layImage_11 : decode cX2_layImage 11 = .ok (.if_icmp .ge 42, 3) := by decide +kernel
theorem dX2_layImage_14 : decode cX2_layImage 14 = .ok (.aload_n 1, 1) := by decide +kernel
theorem dX2_layImage_15 : decode cX2_layImage 15 = .ok (.iload_n 3, 1) := by decide +kernel
theorem dX2_layImage_16 : decode cX2_layImage 16 = .ok (.invokevirtual 46, 3) := by decide +kernel
theorem dX2_layImage_19 : decode cX2_layImage 19 = .ok (.ifCond .eq 10, 3) := by decide +kernel
theorem dX2_layImage_22 : decode cX2_layImage 22 = .ok (.aload_n 0, 1) := by decide +kernel
theorem dX2_layImage_23 : decode cX2_layImage 23 = .ok (.getfield 18, 3) := by decide +kernel
theorem dX2_layImage_26 : decode cX2_layImage 26 = .ok (.goto 7, 3) := by decide +kernel
theorem dX2_layImage_29 : decode cX2_layImage 29 = .ok (.aload_n 0, 1) := by decide +kernel
theorem dX2_layImage_30 : decode cX2_layImage 30 = .ok (.getfield 12, 3) := by decide +kernel
theorem dX2_layImage_33 : decode cX2_layImage 33 = .ok (.astore 4, 2) := by decide +kernel
theorem dX2_layImage_35 : decode cX2_layImage 35 = .ok (.aload_n 2, 1) := by decide +kernel
theorem dX2_layImage_36 : decode cX2_layImage 36 = .ok (.aload 4, 2) := by decide +kernel
theorem dX2_layImage_38 : decode cX2_layImage 38 = .ok (.iconst 0, 1) := by decide +kernel
theorem dX2_layImage_39 : decode cX2_layImage 39 = .ok (.aload 4, 2) := by decide +kernel
theorem dX2_layImage_41 : decode cX2_layImage 41 = .ok (.getfield 39, 3) := by decide +kernel
theorem dX2_layImage_44 : decode cX2_layImage 44 = .ok (.invokevirtual 50, 3) := by decide +kernel
theorem dX2_layImage_47 : decode cX2_layImage 47 = .ok (.iinc 3 1, 3) := by decide +kernel
theorem dX2_layImage_50 : decode cX2_layImage 50 = .ok (.goto (-44), 3) := by decide +kernel
theorem dX2_layImage_53 : decode cX2_layImage 53 = .ok (.return_, 1) := by decide +kernel
theorem dX2_layOrigin_0 : decode cX2_layOrigin 0 = .ok (.aload_n 0, 1) := by decide +kernel
theorem dX2_layOrigin_1 : decode cX2_layOrigin 1 = .ok (.aload_n 1, 1) := by decide +kernel
theorem dX2_layOrigin_2 : decode cX2_layOrigin 2 = .ok (.invokevirtual 54, 3) := by decide +kernel
theorem dX2_layOrigin_5 : decode cX2_layOrigin 5 = .ok (.aload_n 0, 1) := by decide +kernel
theorem dX2_layOrigin_6 : decode cX2_layOrigin 6 = .ok (.iconst 0, 1) := by decide +kernel
theorem dX2_layOrigin_7 : decode cX2_layOrigin 7 = .ok (.invokevirtual 58, 3) := by decide +kernel
theorem dX2_layOrigin_10 : decode cX2_layOrigin 10 = .ok (.ifCond .ne 5, 3) := by decide +kernel
theorem dX2_layOrigin_13 : decode cX2_layOrigin 13 = .ok (.iconst 0, 1) := by decide +kernel
theorem dX2_layOrigin_14 : decode cX2_layOrigin 14 = .ok (.ireturn, 1) := by decide +kernel
theorem dX2_layOrigin_15 : decode cX2_layOrigin 15 = .ok (.aload_n 2, 1) := by decide +kernel
theorem dX2_layOrigin_16 : decode cX2_layOrigin 16 = .ok (.invokevirtual 43, 3) := by decide +kernel
theorem dX2_layOrigin_19 : decode cX2_layOrigin 19 = .ok (.iconst 0, 1) := by decide +kernel
theorem dX2_layOrigin_20 : decode cX2_layOrigin 20 = .ok (.istore_n 3, 1) := by decide +kernel
theorem dX2_layOrigin_21 : decode cX2_layOrigin 21 = .ok (.iconst 0, 1) := by decide +kernel
theorem dX2_layOrigin_22 : decode cX2_layOrigin 22 = .ok (.istore 4, 2) := by decide +kernel
theorem dX2_layOrigin_24 : decode cX2_layOrigin 24 = .ok (.iload 4, 2) := by decide +kernel
theorem dX2_layOrigin_26 : decode cX2_layOrigin 26 = .ok (.aload_n 1, 1) := by decide +kernel
theorem dX2_layOrigin_27 : decode cX2_layOrigin 27 = .ok (.getfield 39, 3) := by decide +kernel
theorem dX2_layOrigin_30 : decode cX2_layOrigin 30 = .ok (.if_icmp .ge 68, 3) := by decide +kernel
theorem dX2_layOrigin_33 : decode cX2_layOrigin 33 = .ok (.iload 4, 2) := by decide +kernel
theorem dX2_layOrigin_35 : decode cX2_layOrigin 35 = .ok (.iload_n 3, 1) := by decide +kernel
theorem dX2_layOrigin_36 : decode cX2_layOrigin 36 = .ok (.if_icmp .ne 56, 3) := by decide +kernel
theorem dX2_layOrigin_39 : decode cX2_layOrigin 39 = .ok (.aload_n 0, 1) := by decide +kernel
theorem dX2_layOrigin_40 : decode cX2_layOrigin 40 = .ok (.aload_n 1, 1) := by decide +kernel
theorem dX2_layOrigin_41 : decode cX2_layOrigin 41 = .ok (.iload 4, 2) := by decide +kernel
theorem dX2_layOrigin_43 : decode cX2_layOrigin 43 = .ok (.aload_n 0, 1) := by decide +kernel
theorem dX2_layOrigin_44 : decode cX2_layOrigin 44 = .ok (.getfield 12, 3) := by decide +kernel
theorem dX2_layOrigin_47 : decode cX2_layOrigin 47 = .ok (.invokevirtual 61, 3) := by decide +kernel
theorem dX2_layOrigin_50 : decode cX2_layOrigin 50 = .ok (.ifCond .ne 7, 3) := by decide +kernel
theorem dX2_layOrigin_53 : decode cX2_layOrigin 53 = .ok (.iconst 1, 1) := by decide +kernel
theorem dX2_layOrigin_54 : decode cX2_layOrigin 54 = .ok (.goto 4, 3) := by decide +kernel
theorem dX2_layOrigin_57 : decode cX2_layOrigin 57 = .ok (.iconst 0, 1) := by decide +kernel
theorem dX2_layOrigin_58 : decode cX2_layOrigin 58 = .ok (.istore 5, 2) := by decide +kernel
theorem dX2_layOrigin_60 : decode cX2_layOrigin 60 = .ok (.aload_n 2, 1) := by decide +kernel
theorem dX2_layOrigin_61 : decode cX2_layOrigin 61 = .ok (.iload 5, 2) := by decide +kernel
theorem dX2_layOrigin_63 : decode cX2_layOrigin 63 = .ok (.invokevirtual 65, 3) := by decide +kernel
theorem dX2_layOrigin_66 : decode cX2_layOrigin 66 = .ok (.iload 4, 2) := by decide +kernel
theorem dX2_layOrigin_68 : decode cX2_layOrigin 68 = .ok (.iload 5, 2) := by decide +kernel
theorem dX2_layOrigin_70 : decode cX2_layOrigin 70 = .ok (.ifCond .eq 13, 3) := by decide +kernel
theorem dX2_layOrigin_73 : decode cX2_layOrigin 73 = .ok (.aload_n 0, 1) := by decide +kernel
theorem dX2_layOrigin_74 : decode cX2_layOrigin 74 = .ok (.getfield 18, 3) := by decide +kernel
theorem dX2_layOrigin_77 : decode cX2_layOrigin 77 = .ok (.getfield 39, 3) := by decide +kernel
theorem dX2_layOrigin_80 : decode cX2_layOrigin 80 = .ok (.goto 10, 3) := by decide +kernel
theorem dX2_layOrigin_83 : decode cX2_layOrigin 83 = .ok (.aload_n 0, 1) := by decide +kernel
theorem dX2_layOrigin_84 : decode cX2_layOrigin 84 = .ok (.getfield 12, 3) := by decide +kernel
theorem dX2_layOrigin_87 : decode cX2_layOrigin 87 = .ok (.getfield 39, 3) := by decide +kernel
theorem dX2_layOrigin_90 : decode cX2_layOrigin 90 = .ok (.iadd, 1) := by decide +kernel
theorem dX2_layOrigin_91 : decode cX2_layOrigin 91 = .ok (.istore_n 3, 1) := by decide +kernel
theorem dX2_layOrigin_92 : decode cX2_layOrigin 92 = .ok (.iinc 4 1, 3) := by decide +kernel
theorem dX2_layOrigin_95 : decode cX2_layOrigin 95 = .ok (.goto (-71), 3) := by decide +kernel
theorem dX2_layOrigin_98 : decode cX2_layOrigin 98 = .ok (.iconst 1, 1) := by decide +kernel
theorem dX2_layOrigin_99 : decode cX2_layOrigin 99 = .ok (.ireturn, 1) := by decide +kernel
theorem dX2_markImages_0 : decode cX2_markImages 0 = .ok (.aload_n 0, 1) := by decide +kernel
theorem dX2_markImages_1 : decode cX2_markImages 1 = .ok (.getfield 21, 3) := by decide +kernel
theorem dX2_markImages_4 : decode cX2_markImages 4 = .ok (.arraylength, 1) := by decide +kernel
theorem dX2_markImages_5 : decode cX2_markImages 5 = .ok (.iconst 1, 1) := by decide +kernel
theorem dX2_markImages_6 : decode cX2_markImages 6 = .ok (.isub, 1) := by decide +kernel
theorem dX2_markImages_7 : decode cX2_markImages 7 = .ok (.istore_n 2, 1) := by decide +kernel
theorem dX2_markImages_8 : decode cX2_markImages 8 = .ok (.iload_n 2, 1) := by decide +kernel
theorem dX2_markImages_9 : decode cX2_markImages 9 = .ok (.ifCond .lt 54, 3) := by decide +kernel
theorem dX2_markImages_12 : decode cX2_markImages 12 = .ok (.aload_n 0, 1) := by decide +kernel
theorem dX2_markImages_13 : decode cX2_markImages 13 = .ok (.getfield 21, 3) := by decide +kernel
theorem dX2_markImages_16 : decode cX2_markImages 16 = .ok (.iload_n 2, 1) := by decide +kernel
theorem dX2_markImages_17 : decode cX2_markImages 17 = .ok (.iload_n 2, 1) := by decide +kernel
theorem dX2_markImages_18 : decode cX2_markImages 18 = .ok (.aload_n 1, 1) := by decide +kernel
theorem dX2_markImages_19 : decode cX2_markImages 19 = .ok (.getfield 39, 3) := by decide +kernel
theorem dX2_markImages_22 : decode cX2_markImages 22 = .ok (.if_icmp .eq 29, 3) := by decide +kernel
theorem dX2_markImages_25 : decode cX2_markImages 25 = .ok (.aload_n 0, 1) := by decide +kernel
theorem dX2_markImages_26 : decode cX2_markImages 26 = .ok (.aload_n 1, 1) := by decide +kernel
theorem dX2_markImages_27 : decode cX2_markImages 27 = .ok (.iload_n 2, 1) := by decide +kernel
theorem dX2_markImages_28 : decode cX2_markImages 28 = .ok (.aload_n 0, 1) := by decide +kernel
theorem dX2_markImages_29 : decode cX2_markImages 29 = .ok (.getfield 12, 3) := by decide +kernel
theorem dX2_markImages_32 : decode cX2_markImages 32 = .ok (.invokevirtual 61, 3) := by decide +kernel
theorem dX2_markImages_35 : decode cX2_markImages 35 = .ok (.ifCond .ne 16, 3) := by decide +kernel
theorem dX2_markImages_38 : decode cX2_markImages 38 = .ok (.aload_n 0, 1) := by decide +kernel
theorem dX2_markImages_39 : decode cX2_markImages 39 = .ok (.aload_n 1, 1) := by decide +kernel
theorem dX2_markImages_40 : decode cX2_markImages 40 = .ok (.iload_n 2, 1) := by decide +kernel
theorem dX2_markImages_41 : decode cX2_markImages 41 = .ok (.aload_n 0, 1) := by decide +kernel
theorem dX2_markImages_42 : decode cX2_markImages 42 = .ok (.getfield 18, 3) := by decide +kernel
theorem dX2_markImages_45 : decode cX2_markImages 45 = .ok (.invokevirtual 61, 3) := by decide +kernel
theorem dX2_markImages_48 : decode cX2_markImages 48 = .ok (.ifCond .eq 7, 3) := by decide +kernel
theorem dX2_markImages_51 : decode cX2_markImages 51 = .ok (.iconst 1, 1) := by decide +kernel
theorem dX2_markImages_52 : decode cX2_markImages 52 = .ok (.goto 4, 3) := by decide +kernel
theorem dX2_markImages_55 : decode cX2_markImages 55 = .ok (.iconst 0, 1) := by decide +kernel
theorem dX2_markImages_56 : decode cX2_markImages 56 = .ok (.bastore, 1) := by decide +kernel
theorem dX2_markImages_57 : decode cX2_markImages 57 = .ok (.iinc 2 (-1), 3) := by decide +kernel
theorem dX2_markImages_60 : decode cX2_markImages 60 = .ok (.goto (-52), 3) := by decide +kernel
theorem dX2_markImages_63 : decode cX2_markImages 63 = .ok (.return_, 1) := by decide +kernel
theorem dX2_isMarked_0 : decode cX2_isMarked 0 = .ok (.iload_n 1, 1) := by decide +kernel
theorem dX2_isMarked_1 : decode cX2_isMarked 1 = .ok (.ifCond .lt 25, 3) := by decide +kernel
theorem dX2_isMarked_4 : decode cX2_isMarked 4 = .ok (.iload_n 1, 1) := by decide +kernel
theorem dX2_isMarked_5 : decode cX2_isMarked 5 = .ok (.aload_n 0, 1) := by decide +kernel
theorem dX2_isMarked_6 : decode cX2_isMarked 6 = .ok (.getfield 21, 3) := by decide +kernel
theorem dX2_isMarked_9 : decode cX2_isMarked 9 = .ok (.arraylength, 1) := by decide +kernel
theorem dX2_isMarked_10 : decode cX2_isMarked 10 = .ok (.if_icmp .ge 16, 3) := by decide +kernel
theorem dX2_isMarked_13 : decode cX2_isMarked 13 = .ok (.aload_n 0, 1) := by decide +kernel
theorem dX2_isMarked_14 : decode cX2_isMarked 14 = .ok (.getfield 21, 3) := by decide +kernel
theorem dX2_isMarked_17 : decode cX2_isMarked 17 = .ok (.iload_n 1, 1) := by decide +kernel
theorem dX2_isMarked_18 : decode cX2_isMarked 18 = .ok (.baload, 1) := by decide +kernel
theorem dX2_isMarked_19 : decode cX2_isMarked 19 = .ok (.ifCond .eq 7, 3) := by decide +kernel
theorem dX2_isMarked_22 : decode cX2_isMarked 22 = .ok (.iconst 1, 1) := by decide +kernel
theorem dX2_isMarked_23 : decode cX2_isMarked 23 = .ok (.goto 4, 3) := by decide +kernel
theorem dX2_isMarked_26 : decode cX2_isMarked 26 = .ok (.iconst 0, 1) := by decide +kernel
theorem dX2_isMarked_27 : decode cX2_isMarked 27 = .ok (.ireturn, 1) := by decide +kernel
theorem dX2_goesOn_0 : decode cX2_goesOn 0 = .ok (.aload_n 1, 1) := by decide +kernel
theorem dX2_goesOn_1 : decode cX2_goesOn 1 = .ok (.iload_n 2, 1) := by decide +kernel
theorem dX2_goesOn_2 : decode cX2_goesOn 2 = .ok (.aload_n 3, 1) := by decide +kernel
theorem dX2_goesOn_3 : decode cX2_goesOn 3 = .ok (.invokestatic 69, 3) := by decide +kernel
theorem dX2_goesOn_6 : decode cX2_goesOn 6 = .ok (.ifCond .eq 20, 3) := by decide +kernel
theorem dX2_goesOn_9 : decode cX2_goesOn 9 = .ok (.aload_n 0, 1) := by decide +kernel
theorem dX2_goesOn_10 : decode cX2_goesOn 10 = .ok (.iload_n 2, 1) := by decide +kernel
theorem dX2_goesOn_11 : decode cX2_goesOn 11 = .ok (.aload_n 3, 1) := by decide +kernel
theorem dX2_goesOn_12 : decode cX2_goesOn 12 = .ok (.getfield 39, 3) := by decide +kernel
theorem dX2_goesOn_15 : decode cX2_goesOn 15 = .ok (.iadd, 1) := by decide +kernel
theorem dX2_goesOn_16 : decode cX2_goesOn 16 = .ok (.invokevirtual 58, 3) := by decide +kernel
theorem dX2_goesOn_19 : decode cX2_goesOn 19 = .ok (.ifCond .eq 7, 3) := by decide +kernel
theorem dX2_goesOn_22 : decode cX2_goesOn 22 = .ok (.iconst 1, 1) := by decide +kernel
theorem dX2_goesOn_23 : decode cX2_goesOn 23 = .ok (.goto 4, 3) := by decide +kernel
theorem dX2_goesOn_26 : decode cX2_goesOn 26 = .ok (.iconst 0, 1) := by decide +kernel
theorem dX2_goesOn_27 : decode cX2_goesOn 27 = .ok (.ireturn, 1) := by decide +kernel
theorem dX3_layByRule_0 : decode cX3_layByRule 0 = .ok (.aload_n 3, 1) := by decide +kernel
theorem dX3_layByRule_1 : decode cX3_layByRule 1 = .ok (.iconst 5, 1) := by decide +kernel
theorem dX3_layByRule_2 : decode cX3_layByRule 2 = .ok (.bipush 6, 2) := by decide +kernel
theorem dX3_layByRule_4 : decode cX3_layByRule 4 = .ok (.invokevirtual 9, 3) := by decide +kernel
theorem dX3_layByRule_7 : decode cX3_layByRule 7 = .ok (.aload_n 1, 1) := by decide +kernel
theorem dX3_layByRule_8 : decode cX3_layByRule 8 = .ok (.invokevirtual 15, 3) := by decide +kernel
theorem dX3_layByRule_11 : decode cX3_layByRule 11 = .ok (.aload_n 1, 1) := by decide +kernel
theorem dX3_layByRule_12 : decode cX3_layByRule 12 = .ok (.iconst 0, 1) := by decide +kernel
theorem dX3_layByRule_13 : decode cX3_layByRule 13 = .ok (.invokevirtual 20, 3) := by decide +kernel
theorem dX3_layByRule_16 : decode cX3_layByRule 16 = .ok (.iconst 0, 1) := by decide +kernel
theorem dX3_layByRule_17 : decode cX3_layByRule 17 = .ok (.istore 4, 2) := by decide +kernel
theorem dX3_layByRule_19 : decode cX3_layByRule 19 = .ok (.iload 4, 2) := by decide +kernel
theorem dX3_layByRule_21 : decode cX3_layByRule 21 = .ok (.iload_n 0, 1) := by decide +kernel
theorem dX3_layByRule_22 : decode cX3_layByRule 22 = .ok (.if_icmp .ge 20, 3) := by decide +kernel
theorem dX3_layByRule_25 : decode cX3_layByRule 25 = .ok (.aload_n 3, 1) := by decide +kernel
theorem dX3_layByRule_26 : decode cX3_layByRule 26 = .ok (.aload_n 1, 1) := by decide +kernel
theorem dX3_layByRule_27 : decode cX3_layByRule 27 = .ok (.aload_n 2, 1) := by decide +kernel
theorem dX3_layByRule_28 : decode cX3_layByRule 28 = .ok (.invokevirtual 24, 3) := by decide +kernel
theorem dX3_layByRule_31 : decode cX3_layByRule 31 = .ok (.aload_n 1, 1) := by decide +kernel
theorem dX3_layByRule_32 : decode cX3_layByRule 32 = .ok (.aload_n 2, 1) := by decide +kernel
theorem dX3_layByRule_33 : decode cX3_layByRule 33 = .ok (.invokevirtual 28, 3) := by decide +kernel
theorem dX3_layByRule_36 : decode cX3_layByRule 36 = .ok (.iinc 4 1, 3) := by decide +kernel
theorem dX3_layByRule_39 : decode cX3_layByRule 39 = .ok (.goto (-20), 3) := by decide +kernel
theorem dX3_layByRule_42 : decode cX3_layByRule 42 = .ok (.return_, 1) := by decide +kernel
theorem dX3_layByCopies_0 : decode cX3_layByCopies 0 = .ok (.aload_n 1, 1) := by decide +kernel
theorem dX3_layByCopies_1 : decode cX3_layByCopies 1 = .ok (.invokevirtual 15, 3) := by decide +kernel
theorem dX3_layByCopies_4 : decode cX3_layByCopies 4 = .ok (.aload_n 1, 1) := by decide +kernel
theorem dX3_layByCopies_5 : decode cX3_layByCopies 5 = .ok (.iconst 0, 1) := by decide +kernel
theorem dX3_layByCopies_6 : decode cX3_layByCopies 6 = .ok (.invokevirtual 20, 3) := by decide +kernel
theorem dX3_layByCopies_9 : decode cX3_layByCopies 9 = .ok (.iconst 0, 1) := by decide +kernel
theorem dX3_layByCopies_10 : decode cX3_layByCopies 10 = .ok (.istore_n 2, 1) := by decide +kernel
theorem dX3_layByCopies_11 : decode cX3_layByCopies 11 = .ok (.iload_n 2, 1) := by decide +kernel
theorem dX3_layByCopies_12 : decode cX3_layByCopies 12 = .ok (.iload_n 0, 1) := by decide +kernel
theorem dX3_layByCopies_13 : decode cX3_layByCopies 13 = .ok (.if_icmp .ge 47, 3) := by decide +kernel
theorem dX3_layByCopies_16 : decode cX3_layByCopies 16 = .ok (.aload_n 1, 1) := by decide +kernel
theorem dX3_layByCopies_17 : decode cX3_layByCopies 17 = .ok (.getfield 31, 3) := by decide +kernel
theorem dX3_layByCopies_20 : decode cX3_layByCopies 20 = .ok (.istore_n 3, 1) := by decide +kernel
theorem dX3_layByCopies_21 : decode cX3_layByCopies 21 = .ok (.iconst 0, 1) := by decide +kernel
theorem dX3_layByCopies_22 : decode cX3_layByCopies 22 = .ok (.istore 4, 2) := by decide +kernel
theorem dX3_layByCopies_24 : decode cX3_layByCopies 24 = .ok (.iload 4, 2) := by decide +kernel
theorem dX3_layByCopies_26 : decode cX3_layByCopies 26 = .ok (.iload_n 3, 1) := by decide +kernel
theorem dX3_layByCopies_27 : decode cX3_layByCopies 27 = .ok (.if_icmp .ge 27, 3) := by decide +kernel
theorem dX3_layByCopies_30 : decode cX3_layByCopies 30 = .ok (.aload_n 1, 1) := by decide +kernel
theorem dX3_layByCopies_31 : decode cX3_layByCopies 31 = .ok (.aload_n 1, 1) := by decide +kernel
theorem dX3_layByCopies_32 : decode cX3_layByCopies 32 = .ok (.iload 4, 2) := by decide +kernel
theorem dX3_layByCopies_34 : decode cX3_layByCopies 34 = .ok (.invokevirtual 35, 3) := by decide +kernel
theorem dX3_layByCopies_37 : decode cX3_layByCopies 37 = .ok (.ifCond .ne 7, 3) := by decide +kernel
theorem dX3_layByCopies_40 : decode cX3_layByCopies 40 = .ok (.iconst 1, 1) := by decide +kernel
theorem dX3_layByCopies_41 : decode cX3_layByCopies 41 = .ok (.goto 4, 3) := by decide +kernel
theorem dX3_layByCopies_44 : decode cX3_layByCopies 44 = .ok (.iconst 0, 1) := by decide +kernel
theorem dX3_layByCopies_45 : decode cX3_layByCopies 45 = .ok (.invokevirtual 20, 3) := by decide +kernel
theorem dX3_layByCopies_48 : decode cX3_layByCopies 48 = .ok (.iinc 4 1, 3) := by decide +kernel
theorem dX3_layByCopies_51 : decode cX3_layByCopies 51 = .ok (.goto (-27), 3) := by decide +kernel
theorem dX3_layByCopies_54 : decode cX3_layByCopies 54 = .ok (.iinc 2 1, 3) := by decide +kernel
theorem dX3_layByCopies_57 : decode cX3_layByCopies 57 = .ok (.goto (-46), 3) := by decide +kernel
theorem dX3_layByCopies_60 : decode cX3_layByCopies 60 = .ok (.return_, 1) := by decide +kernel
theorem dX3_laySignBySign_0 : decode cX3_laySignBySign 0 = .ok (.aload_n 1, 1) := by decide +kernel
theorem dX3_laySignBySign_1 : decode cX3_laySignBySign 1 = .ok (.invokevirtual 15, 3) := by decide +kernel
theorem dX3_laySignBySign_4 : decode cX3_laySignBySign 4 = .ok (.iconst 0, 1) := by decide +kernel
theorem dX3_laySignBySign_5 : decode cX3_laySignBySign 5 = .ok (.istore_n 2, 1) := by decide +kernel
theorem dX3_laySignBySign_6 : decode cX3_laySignBySign 6 = .ok (.iload_n 2, 1) := by decide +kernel
theorem dX3_laySignBySign_7 : decode cX3_laySignBySign 7 = .ok (.iconst 1, 1) := by decide +kernel
theorem dX3_laySignBySign_8 : decode cX3_laySignBySign 8 = .ok (.iload_n 0, 1) := by decide +kernel
theorem dX3_laySignBySign_9 : decode cX3_laySignBySign 9 = .ok (.ishl, 1) := by decide +kernel
theorem dX3_laySignBySign_10 : decode cX3_laySignBySign 10 = .ok (.if_icmp .ge 28, 3) := by decide +kernel
theorem dX3_laySignBySign_13 : decode cX3_laySignBySign 13 = .ok (.aload_n 1, 1) := by decide +kernel
theorem dX3_laySignBySign_14 : decode cX3_laySignBySign 14 = .ok (.iload_n 2, 1) := by decide +kernel
theorem dX3_laySignBySign_15 : decode cX3_laySignBySign 15 = .ok (.invokestatic 39, 3) := by decide +kernel
theorem dX3_laySignBySign_18 : decode cX3_laySignBySign 18 = .ok (.iconst 1, 1) := by decide +kernel
theorem dX3_laySignBySign_19 : decode cX3_laySignBySign 19 = .ok (.iand, 1) := by decide +kernel
theorem dX3_laySignBySign_20 : decode cX3_laySignBySign 20 = .ok (.iconst 1, 1) := by decide +kernel
theorem dX3_laySignBySign_21 : decode cX3_laySignBySign 21 = .ok (.if_icmp .ne 7, 3) := by decide +kernel
theorem dX3_laySignBySign_24 : decode cX3_laySignBySign 24 = .ok (.iconst 1, 1) := by decide +kernel
theorem dX3_laySignBySign_25 : decode cX3_laySignBySign 25 = .ok (.goto 4, 3) := by decide +kernel
theorem dX3_laySignBySign_28 : decode cX3_laySignBySign 28 = .ok (.iconst 0, 1) := by decide +kernel
theorem dX3_laySignBySign_29 : decode cX3_laySignBySign 29 = .ok (.invokevirtual 20, 3) := by decide +kernel
theorem dX3_laySignBySign_32 : decode cX3_laySignBySign 32 = .ok (.iinc 2 1, 3) := by decide +kernel
theorem dX3_laySignBySign_35 : decode cX3_laySignBySign 35 = .ok (.goto (-29), 3) := by decide +kernel
theorem dX3_laySignBySign_38 : decode cX3_laySignBySign 38 = .ok (.return_, 1) := by decide +kernel
theorem dX4_init_0 : decode cX4_init 0 = .ok (.aload_n 0, 1) := by decide +kernel
theorem dX4_init_1 : decode cX4_init 1 = .ok (.invokespecial 3, 3) := by decide +kernel
theorem dX4_init_4 : decode cX4_init 4 = .ok (.aload_n 0, 1) := by decide +kernel
theorem dX4_init_5 : decode cX4_init 5 = .ok (.bipush 64, 2) := by decide +kernel
theorem dX4_init_7 : decode cX4_init 7 = .ok (.newarray .boolean, 2) := by decide +kernel
theorem dX4_init_9 : decode cX4_init 9 = .ok (.putfield 9, 3) := by decide +kernel
theorem dX4_init_12 : decode cX4_init 12 = .ok (.return_, 1) := by decide +kernel
theorem dX4_isUp_0 : decode cX4_isUp 0 = .ok (.iload_n 1, 1) := by decide +kernel
theorem dX4_isUp_1 : decode cX4_isUp 1 = .ok (.ifCond .lt 25, 3) := by decide +kernel
theorem dX4_isUp_4 : decode cX4_isUp 4 = .ok (.iload_n 1, 1) := by decide +kernel
theorem dX4_isUp_5 : decode cX4_isUp 5 = .ok (.aload_n 0, 1) := by decide +kernel
theorem dX4_isUp_6 : decode cX4_isUp 6 = .ok (.getfield 9, 3) := by decide +kernel
theorem dX4_isUp_9 : decode cX4_isUp 9 = .ok (.arraylength, 1) := by decide +kernel
theorem dX4_isUp_10 : decode cX4_isUp 10 = .ok (.if_icmp .ge 16, 3) := by decide +kernel
theorem dX4_isUp_13 : decode cX4_isUp 13 = .ok (.aload_n 0, 1) := by decide +kernel
theorem dX4_isUp_14 : decode cX4_isUp 14 = .ok (.getfield 9, 3) := by decide +kernel
theorem dX4_isUp_17 : decode cX4_isUp 17 = .ok (.iload_n 1, 1) := by decide +kernel
theorem dX4_isUp_18 : decode cX4_isUp 18 = .ok (.baload, 1) := by decide +kernel
theorem dX4_isUp_19 : decode cX4_isUp 19 = .ok (.ifCond .eq 7, 3) := by decide +kernel
theorem dX4_isUp_22 : decode cX4_isUp 22 = .ok (.iconst 1, 1) := by decide +kernel
theorem dX4_isUp_23 : decode cX4_isUp 23 = .ok (.goto 4, 3) := by decide +kernel
theorem dX4_isUp_26 : decode cX4_isUp 26 = .ok (.iconst 0, 1) := by decide +kernel
theorem dX4_isUp_27 : decode cX4_isUp 27 = .ok (.ireturn, 1) := by decide +kernel
theorem dX4_put_0 : decode cX4_put 0 = .ok (.iload_n 1, 1) := by decide +kernel
theorem dX4_put_1 : decode cX4_put 1 = .ok (.ifCond .lt 19, 3) := by decide +kernel
theorem dX4_put_4 : decode cX4_put 4 = .ok (.iload_n 1, 1) := by decide +kernel
theorem dX4_put_5 : decode cX4_put 5 = .ok (.aload_n 0, 1) := by decide +kernel
theorem dX4_put_6 : decode cX4_put 6 = .ok (.getfield 9, 3) := by decide +kernel
theorem dX4_put_9 : decode cX4_put 9 = .ok (.arraylength, 1) := by decide +kernel
theorem dX4_put_10 : decode cX4_put 10 = .ok (.if_icmp .ge 10, 3) := by decide +kernel
theorem dX4_put_13 : decode cX4_put 13 = .ok (.aload_n 0, 1) := by decide +kernel
theorem dX4_put_14 : decode cX4_put 14 = .ok (.getfield 9, 3) := by decide +kernel
theorem dX4_put_17 : decode cX4_put 17 = .ok (.iload_n 1, 1) := by decide +kernel
theorem dX4_put_18 : decode cX4_put 18 = .ok (.iload_n 2, 1) := by decide +kernel
theorem dX4_put_19 : decode cX4_put 19 = .ok (.bastore, 1) := by decide +kernel
theorem dX4_put_20 : decode cX4_put 20 = .ok (.return_, 1) := by decide +kernel
theorem dX4_clear_0 : decode cX4_clear 0 = .ok (.aload_n 0, 1) := by decide +kernel
theorem dX4_clear_1 : decode cX4_clear 1 = .ok (.iconst 0, 1) := by decide +kernel
theorem dX4_clear_2 : decode cX4_clear 2 = .ok (.putfield 15, 3) := by decide +kernel
theorem dX4_clear_5 : decode cX4_clear 5 = .ok (.return_, 1) := by decide +kernel
theorem dX4_add_0 : decode cX4_add 0 = .ok (.aload_n 0, 1) := by decide +kernel
theorem dX4_add_1 : decode cX4_add 1 = .ok (.getfield 15, 3) := by decide +kernel
theorem dX4_add_4 : decode cX4_add 4 = .ok (.ifCond .lt 35, 3) := by decide +kernel
theorem dX4_add_7 : decode cX4_add 7 = .ok (.aload_n 0, 1) := by decide +kernel
theorem dX4_add_8 : decode cX4_add 8 = .ok (.getfield 15, 3) := by decide +kernel
theorem dX4_add_11 : decode cX4_add 11 = .ok (.aload_n 0, 1) := by decide +kernel
theorem dX4_add_12 : decode cX4_add 12 = .ok (.getfield 9, 3) := by decide +kernel
theorem dX4_add_15 : decode cX4_add 15 = .ok (.arraylength, 1) := by decide +kernel
theorem dX4_add_16 : decode cX4_add 16 = .ok (.if_icmp .ge 23, 3) := by decide +kernel
theorem dX4_add_19 : decode cX4_add 19 = .ok (.aload_n 0, 1) := by decide +kernel
theorem dX4_add_20 : decode cX4_add 20 = .ok (.getfield 9, 3) := by decide +kernel
theorem dX4_add_23 : decode cX4_add 23 = .ok (.aload_n 0, 1) := by decide +kernel
theorem dX4_add_24 : decode cX4_add 24 = .ok (.getfield 15, 3) := by decide +kernel
theorem dX4_add_27 : decode cX4_add 27 = .ok (.iload_n 1, 1) := by decide +kernel
theorem dX4_add_28 : decode cX4_add 28 = .ok (.bastore, 1) := by decide +kernel
theorem dX4_add_29 : decode cX4_add 29 = .ok (.aload_n 0, 1) := by decide +kernel
theorem dX4_add_30 : decode cX4_add 30 = .ok (.dup, 1) := by decide +kernel
theorem dX4_add_31 : decode cX4_add 31 = .ok (.getfield 15, 3) := by decide +kernel
theorem dX4_add_34 : decode cX4_add 34 = .ok (.iconst 1, 1) := by decide +kernel
theorem dX4_add_35 : decode cX4_add 35 = .ok (.iadd, 1) := by decide +kernel
theorem dX4_add_36 : decode cX4_add 36 = .ok (.putfield 15, 3) := by decide +kernel
theorem dX4_add_39 : decode cX4_add 39 = .ok (.return_, 1) := by decide +kernel
theorem dX4_addPart_0 : decode cX4_addPart 0 = .ok (.iload_n 2, 1) := by decide +kernel
theorem dX4_addPart_1 : decode cX4_addPart 1 = .ok (.istore 4, 2) := by decide +kernel
theorem dX4_addPart_3 : decode cX4_addPart 3 = .ok (.iload 4, 2) := by decide +kernel
theorem dX4_addPart_5 : decode cX4_addPart 5 = .ok (.iload_n 3, 1) := by decide +kernel
theorem dX4_addPart_6 : decode cX4_addPart 6 = .ok (.if_icmp .ge 19, 3) := by decide +kernel
theorem dX4_addPart_9 : decode cX4_addPart 9 = .ok (.aload_n 0, 1) := by decide +kernel
theorem dX4_addPart_10 : decode cX4_addPart 10 = .ok (.aload_n 1, 1) := by decide +kernel
theorem dX4_addPart_11 : decode cX4_addPart 11 = .ok (.iload 4, 2) := by decide +kernel
theorem dX4_addPart_13 : decode cX4_addPart 13 = .ok (.invokevirtual 19, 3) := by decide +kernel
theorem dX4_addPart_16 : decode cX4_addPart 16 = .ok (.invokevirtual 23, 3) := by decide +kernel
theorem dX4_addPart_19 : decode cX4_addPart 19 = .ok (.iinc 4 1, 3) := by decide +kernel
theorem dX4_addPart_22 : decode cX4_addPart 22 = .ok (.goto (-19), 3) := by decide +kernel
theorem dX4_addPart_25 : decode cX4_addPart 25 = .ok (.return_, 1) := by decide +kernel
theorem dX4_take_0 : decode cX4_take 0 = .ok (.iconst 0, 1) := by decide +kernel
theorem dX4_take_1 : decode cX4_take 1 = .ok (.istore_n 2, 1) := by decide +kernel
theorem dX4_take_2 : decode cX4_take 2 = .ok (.iload_n 2, 1) := by decide +kernel
theorem dX4_take_3 : decode cX4_take 3 = .ok (.aload_n 1, 1) := by decide +kernel
theorem dX4_take_4 : decode cX4_take 4 = .ok (.getfield 15, 3) := by decide +kernel
theorem dX4_take_7 : decode cX4_take 7 = .ok (.if_icmp .ge 19, 3) := by decide +kernel
theorem dX4_take_10 : decode cX4_take 10 = .ok (.aload_n 0, 1) := by decide +kernel
theorem dX4_take_11 : decode cX4_take 11 = .ok (.iload_n 2, 1) := by decide +kernel
theorem dX4_take_12 : decode cX4_take 12 = .ok (.aload_n 1, 1) := by decide +kernel
theorem dX4_take_13 : decode cX4_take 13 = .ok (.iload_n 2, 1) := by decide +kernel
theorem dX4_take_14 : decode cX4_take 14 = .ok (.invokevirtual 19, 3) := by decide +kernel
theorem dX4_take_17 : decode cX4_take 17 = .ok (.invokevirtual 27, 3) := by decide +kernel
theorem dX4_take_20 : decode cX4_take 20 = .ok (.iinc 2 1, 3) := by decide +kernel
theorem dX4_take_23 : decode cX4_take 23 = .ok (.goto (-21), 3) := by decide +kernel
theorem dX4_take_26 : decode cX4_take 26 = .ok (.aload_n 0, 1) := by decide +kernel
theorem dX4_take_27 : decode cX4_take 27 = .ok (.aload_n 1, 1) := by decide +kernel
theorem dX4_take_28 : decode cX4_take 28 = .ok (.getfield 15, 3) := by decide +kernel
theorem dX4_take_31 : decode cX4_take 31 = .ok (.putfield 15, 3) := by decide +kernel
theorem dX4_take_34 : decode cX4_take 34 = .ok (.return_, 1) := by decide +kernel
theorem dX4_takeTurned_0 : decode cX4_takeTurned 0 = .ok (.aload_n 0, 1) := by decide +kernel
theorem dX4_takeTurned_1 : decode cX4_takeTurned 1 = .ok (.invokevirtual 31, 3) := by decide +kernel
theorem dX4_takeTurned_4 : decode cX4_takeTurned 4 = .ok (.aload_n 1, 1) := by decide +kernel
theorem dX4_takeTurned_5 : decode cX4_takeTurned 5 = .ok (.getfield 15, 3) := by decide +kernel
theorem dX4_takeTurned_8 : decode cX4_takeTurned 8 = .ok (.iconst 1, 1) := by decide +kernel
theorem dX4_takeTurned_9 : decode cX4_takeTurned 9 = .ok (.isub, 1) := by decide +kernel
theorem dX4_takeTurned_10 : decode cX4_takeTurned 10 = .ok (.istore_n 2, 1) := by decide +kernel
theorem dX4_takeTurned_11 : decode cX4_takeTurned 11 = .ok (.iload_n 2, 1) := by decide +kernel
theorem dX4_takeTurned_12 : decode cX4_takeTurned 12 = .ok (.ifCond .lt 18, 3) := by decide +kernel
theorem dX4_takeTurned_15 : decode cX4_takeTurned 15 = .ok (.aload_n 0, 1) := by decide +kernel
theorem dX4_takeTurned_16 : decode cX4_takeTurned 16 = .ok (.aload_n 1, 1) := by decide +kernel
theorem dX4_takeTurned_17 : decode cX4_takeTurned 17 = .ok (.iload_n 2, 1) := by decide +kernel
theorem dX4_takeTurned_18 : decode cX4_takeTurned 18 = .ok (.invokevirtual 19, 3) := by decide +kernel
theorem dX4_takeTurned_21 : decode cX4_takeTurned 21 = .ok (.invokevirtual 23, 3) := by decide +kernel
theorem dX4_takeTurned_24 : decode cX4_takeTurned 24 = .ok (.iinc 2 (-1), 3) := by decide +kernel
theorem dX4_takeTurned_27 : decode cX4_takeTurned 27 = .ok (.goto (-16), 3) := by decide +kernel
theorem dX4_takeTurned_30 : decode cX4_takeTurned 30 = .ok (.return_, 1) := by decide +kernel
theorem dX4_takeCode_0 : decode cX4_takeCode 0 = .ok (.aload_n 0, 1) := by decide +kernel
theorem dX4_takeCode_1 : decode cX4_takeCode 1 = .ok (.invokevirtual 31, 3) := by decide +kernel
theorem dX4_takeCode_4 : decode cX4_takeCode 4 = .ok (.iconst 0, 1) := by decide +kernel
theorem dX4_takeCode_5 : decode cX4_takeCode 5 = .ok (.istore_n 2, 1) := by decide +kernel
theorem dX4_takeCode_6 : decode cX4_takeCode 6 = .ok (.bipush 15, 2) := by decide +kernel
theorem dX4_takeCode_8 : decode cX4_takeCode 8 = .ok (.istore_n 3, 1) := by decide +kernel
theorem dX4_takeCode_9 : decode cX4_takeCode 9 = .ok (.iload_n 3, 1) := by decide +kernel
theorem dX4_takeCode_10 : decode cX4_takeCode 10 = .ok (.ifCond .lt 50, 3) := by decide +kernel
theorem dX4_takeCode_13 : decode cX4_takeCode 13 = .ok (.iload_n 1, 1) := by decide +kernel
theorem dX4_takeCode_14 : decode cX4_takeCode 14 = .ok (.iload_n 3, 1) := by decide +kernel
theorem dX4_takeCode_15 : decode cX4_takeCode 15 = .ok (.ishr, 1) := by decide +kernel
theorem dX4_takeCode_16 : decode cX4_takeCode 16 = .ok (.iconst 1, 1) := by decide +kernel
theorem dX4_takeCode_17 : decode cX4_takeCode 17 = .ok (.iand, 1) := by decide +kernel
theorem dX4_takeCode_18 : decode cX4_takeCode 18 = .ok (.iconst 1, 1) := by decide +kernel
theorem dX4_takeCode_19 : decode cX4_takeCode 19 = .ok (.if_icmp .ne 7, 3) := by decide +kernel
theorem dX4_takeCode_22 : decode cX4_takeCode 22 = .ok (.iconst 1, 1) := by decide +kernel
theorem dX4_takeCode_23 : decode cX4_takeCode 23 = .ok (.goto 4, 3) := by decide +kernel
theorem dX4_takeCode_26 : decode cX4_takeCode 26 = .ok (.iconst 0, 1) := by decide +kernel
theorem dX4_takeCode_27 : decode cX4_takeCode 27 = .ok (.istore 4, 2) := by decide +kernel
theorem dX4_takeCode_29 : decode cX4_takeCode 29 = .ok (.iload_n 2, 1) := by decide +kernel
theorem dX4_takeCode_30 : decode cX4_takeCode 30 = .ok (.ifCond .eq 9, 3) := by decide +kernel
theorem dX4_takeCode_33 : decode cX4_takeCode 33 = .ok (.aload_n 0, 1) := by decide +kernel
theorem dX4_takeCode_34 : decode cX4_takeCode 34 = .ok (.iload 4, 2) := by decide +kernel
theorem dX4_takeCode_36 : decode cX4_takeCode 36 = .ok (.invokevirtual 23, 3) := by decide +kernel
theorem dX4_takeCode_39 : decode cX4_takeCode 39 = .ok (.iload_n 2, 1) := by decide +kernel
theorem dX4_takeCode_40 : decode cX4_takeCode 40 = .ok (.ifCond .ne 8, 3) := by decide +kernel
theorem dX4_takeCode_43 : decode cX4_takeCode 43 = .ok (.iload 4, 2) := by decide +kernel
theorem dX4_takeCode_45 : decode cX4_takeCode 45 = .ok (.ifCond .eq 7, 3) := by decide +kernel
theorem dX4_takeCode_48 : decode cX4_takeCode 48 = .ok (.iconst 1, 1) := by decide +kernel
theorem dX4_takeCode_49 : decode cX4_takeCode 49 = .ok (.goto 4, 3) := by decide +kernel
theorem dX4_takeCode_52 : decode cX4_takeCode 52 = .ok (.iconst 0, 1) := by decide +kernel
theorem dX4_takeCode_53 : decode cX4_takeCode 53 = .ok (.istore_n 2, 1) := by decide +kernel
theorem dX4_takeCode_54 : decode cX4_takeCode 54 = .ok (.iinc 3 (-1), 3) := by decide +kernel
theorem dX4_takeCode_57 : decode cX4_takeCode 57 = .ok (.goto (-48), 3) := by decide +kernel
theorem dX4_takeCode_60 : decode cX4_takeCode 60 = .ok (.return_, 1) := by decide +kernel
theorem dX5_init_0 : decode cX5_init 0 = .ok (.aload_n 0, 1) := by decide +kernel
theorem dX5_init_1 : decode cX5_init 1 = .ok (.invokespecial 1, 3) := by decide +kernel
theorem dX5_init_4 : decode cX5_init 4 = .ok (.aload_n 0, 1) := by decide +kernel
theorem dX5_init_5 : decode cX5_init 5 = .ok (.iconst 3, 1) := by decide +kernel
theorem dX5_init_6 : decode cX5_init 6 = .ok (.anewarray 9, 3) := by decide +kernel
theorem dX5_init_9 : decode cX5_init 9 = .ok (.putfield 11, 3) := by decide +kernel
theorem dX5_init_12 : decode cX5_init 12 = .ok (.aload_n 0, 1) := by decide +kernel
theorem dX5_init_13 : decode cX5_init 13 = .ok (.iconst 2, 1) := by decide +kernel
theorem dX5_init_14 : decode cX5_init 14 = .ok (.anewarray 15, 3) := by decide +kernel
theorem dX5_init_17 : decode cX5_init 17 = .ok (.putfield 17, 3) := by decide +kernel
theorem dX5_init_20 : decode cX5_init 20 = .ok (.aload_n 0, 1) := by decide +kernel
theorem dX5_init_21 : decode cX5_init 21 = .ok (.new 21, 3) := by decide +kernel
theorem dX5_init_24 : decode cX5_init 24 = .ok (.dup, 1) := by decide +kernel
theorem dX5_init_25 : decode cX5_init 25 = .ok (.invokespecial 23, 3) := by decide +kernel
theorem dX5_init_28 : decode cX5_init 28 = .ok (.putfield 24, 3) := by decide +kernel
theorem dX5_init_31 : decode cX5_init 31 = .ok (.aload_n 0, 1) := by decide +kernel
theorem dX5_init_32 : decode cX5_init 32 = .ok (.new 9, 3) := by decide +kernel
theorem dX5_init_35 : decode cX5_init 35 = .ok (.dup, 1) := by decide +kernel
theorem dX5_init_36 : decode cX5_init 36 = .ok (.invokespecial 28, 3) := by decide +kernel
theorem dX5_init_39 : decode cX5_init 39 = .ok (.putfield 29, 3) := by decide +kernel
theorem dX5_init_42 : decode cX5_init 42 = .ok (.aload_n 0, 1) := by decide +kernel
theorem dX5_init_43 : decode cX5_init 43 = .ok (.new 9, 3) := by decide +kernel
theorem dX5_init_46 : decode cX5_init 46 = .ok (.dup, 1) := by decide +kernel
theorem dX5_init_47 : decode cX5_init 47 = .ok (.invokespecial 28, 3) := by decide +kernel
theorem dX5_init_50 : decode cX5_init 50 = .ok (.putfield 33, 3) := by decide +kernel
theorem dX5_init_53 : decode cX5_init 53 = .ok (.iconst 0, 1) := by decide +kernel
theorem dX5_init_54 : decode cX5_init 54 = .ok (.istore_n 1, 1) := by decide +kernel
theorem dX5_init_55 : decode cX5_init 55 = .ok (.iload_n 1, 1) := by decide +kernel
theorem dX5_init_56 : decode cX5_init 56 = .ok (.aload_n 0, 1) := by decide +kernel
theorem dX5_init_57 : decode cX5_init 57 = .ok (.getfield 11, 3) := by decide +kernel
theorem dX5_init_60 : decode cX5_init 60 = .ok (.arraylength, 1) := by decide +kernel
theorem dX5_init_61 : decode cX5_init 61 = .ok (.if_icmp .ge 22, 3) := by decide +kernel
theorem dX5_init_64 : decode cX5_init 64 = .ok (.aload_n 0, 1) := by decide +kernel
theorem dX5_init_65 : decode cX5_init 65 = .ok (.getfield 11, 3) := by decide +kernel
theorem dX5_init_68 : decode cX5_init 68 = .ok (.iload_n 1, 1) := by decide +kernel
theorem dX5_init_69 : decode cX5_init 69 = .ok (.new 9, 3) := by decide +kernel
theorem dX5_init_72 : decode cX5_init 72 = .ok (.dup, 1) := by decide +kernel
theorem dX5_init_73 : decode cX5_init 73 = .ok (.invokespecial 28, 3) := by decide +kernel
theorem dX5_init_76 : decode cX5_init 76 = .ok (.aastore, 1) := by decide +kernel
theorem dX5_init_77 : decode cX5_init 77 = .ok (.iinc 1 1, 3) := by decide +kernel
theorem dX5_init_80 : decode cX5_init 80 = .ok (.goto (-25), 3) := by decide +kernel
theorem dX5_init_83 : decode cX5_init 83 = .ok (.iconst 0, 1) := by decide +kernel
theorem dX5_init_84 : decode cX5_init 84 = .ok (.istore_n 1, 1) := by decide +kernel
theorem dX5_init_85 : decode cX5_init 85 = .ok (.iload_n 1, 1) := by decide +kernel
theorem dX5_init_86 : decode cX5_init 86 = .ok (.aload_n 0, 1) := by decide +kernel
theorem dX5_init_87 : decode cX5_init 87 = .ok (.getfield 17, 3) := by decide +kernel
theorem dX5_init_90 : decode cX5_init 90 = .ok (.arraylength, 1) := by decide +kernel
theorem dX5_init_91 : decode cX5_init 91 = .ok (.if_icmp .ge 22, 3) := by decide +kernel
theorem dX5_init_94 : decode cX5_init 94 = .ok (.aload_n 0, 1) := by decide +kernel
theorem dX5_init_95 : decode cX5_init 95 = .ok (.getfield 17, 3) := by decide +kernel
theorem dX5_init_98 : decode cX5_init 98 = .ok (.iload_n 1, 1) := by decide +kernel
theorem dX5_init_99 : decode cX5_init 99 = .ok (.new 15, 3) := by decide +kernel
theorem dX5_init_102 : decode cX5_init 102 = .ok (.dup, 1) := by decide +kernel
theorem dX5_init_103 : decode cX5_init 103 = .ok (.invokespecial 36, 3) := by decide +kernel
theorem dX5_init_106 : decode cX5_init 106 = .ok (.aastore, 1) := by decide +kernel
theorem dX5_init_107 : decode cX5_init 107 = .ok (.iinc 1 1, 3) := by decide +kernel
theorem dX5_init_110 : decode cX5_init 110 = .ok (.goto (-25), 3) := by decide +kernel
theorem dX5_init_113 : decode cX5_init 113 = .ok (.return_, 1) := by decide +kernel
theorem dX5_write_0 : decode cX5_write 0 = .ok (.aload_n 0, 1) := by decide +kernel
theorem dX5_write_1 : decode cX5_write 1 = .ok (.iload_n 1, 1) := by decide +kernel
theorem dX5_write_2 : decode cX5_write 2 = .ok (.invokevirtual 37, 3) := by decide +kernel
theorem dX5_write_5 : decode cX5_write 5 = .ok (.astore_n 3, 1) := by decide +kernel
theorem dX5_write_6 : decode cX5_write 6 = .ok (.iload_n 2, 1) := by decide +kernel
theorem dX5_write_7 : decode cX5_write 7 = .ok (.iconst 1, 1) := by decide +kernel
theorem dX5_write_8 : decode cX5_write 8 = .ok (.if_icmp .lt 13, 3) := by decide +kernel
theorem dX5_write_11 : decode cX5_write 11 = .ok (.iload_n 2, 1) := by decide +kernel
theorem dX5_write_12 : decode cX5_write 12 = .ok (.ldc 41, 2) := by decide +kernel
theorem dX5_write_14 : decode cX5_write 14 = .ok (.if_icmp .gt 7, 3) := by decide +kernel
theorem dX5_write_17 : decode cX5_write 17 = .ok (.iconst 1, 1) := by decide +kernel
theorem dX5_write_18 : decode cX5_write 18 = .ok (.goto 4, 3) := by decide +kernel
theorem dX5_write_21 : decode cX5_write 21 = .ok (.iconst 0, 1) := by decide +kernel
theorem dX5_write_22 : decode cX5_write 22 = .ok (.invokestatic 42, 3) := by decide +kernel
theorem dX5_write_25 : decode cX5_write 25 = .ok (.aload_n 3, 1) := by decide +kernel
theorem dX5_write_26 : decode cX5_write 26 = .ok (.iload_n 2, 1) := by decide +kernel
theorem dX5_write_27 : decode cX5_write 27 = .ok (.invokevirtual 46, 3) := by decide +kernel
theorem dX5_write_30 : decode cX5_write 30 = .ok (.aload_n 0, 1) := by decide +kernel
theorem dX5_write_31 : decode cX5_write 31 = .ok (.aload_n 3, 1) := by decide +kernel
theorem dX5_write_32 : decode cX5_write 32 = .ok (.getfield 50, 3) := by decide +kernel
theorem dX5_write_35 : decode cX5_write 35 = .ok (.invokevirtual 54, 3) := by decide +kernel
theorem dX5_write_38 : decode cX5_write 38 = .ok (.ireturn, 1) := by decide +kernel
theorem dX5_append_0 : decode cX5_append 0 = .ok (.aload_n 0, 1) := by decide +kernel
theorem dX5_append_1 : decode cX5_append 1 = .ok (.iload_n 1, 1) := by decide +kernel
theorem dX5_append_2 : decode cX5_append 2 = .ok (.invokevirtual 37, 3) := by decide +kernel
theorem dX5_append_5 : decode cX5_append 5 = .ok (.astore_n 3, 1) := by decide +kernel
theorem dX5_append_6 : decode cX5_append 6 = .ok (.aload_n 0, 1) := by decide +kernel
theorem dX5_append_7 : decode cX5_append 7 = .ok (.aload_n 3, 1) := by decide +kernel
theorem dX5_append_8 : decode cX5_append 8 = .ok (.aload_n 3, 1) := by decide +kernel
theorem dX5_append_9 : decode cX5_append 9 = .ok (.getfield 50, 3) := by decide +kernel
theorem dX5_append_12 : decode cX5_append 12 = .ok (.aload_n 3, 1) := by decide +kernel
theorem dX5_append_13 : decode cX5_append 13 = .ok (.getfield 50, 3) := by decide +kernel
theorem dX5_append_16 : decode cX5_append 16 = .ok (.aload_n 0, 1) := by decide +kernel
theorem dX5_append_17 : decode cX5_append 17 = .ok (.iload_n 2, 1) := by decide +kernel
theorem dX5_append_18 : decode cX5_append 18 = .ok (.invokevirtual 37, 3) := by decide +kernel
theorem dX5_append_21 : decode cX5_append 21 = .ok (.invokevirtual 58, 3) := by decide +kernel
theorem dX5_append_24 : decode cX5_append 24 = .ok (.ireturn, 1) := by decide +kernel
theorem dX5_insertSign_0 : decode cX5_insertSign 0 = .ok (.aload_n 0, 1) := by decide +kernel
theorem dX5_insertSign_1 : decode cX5_insertSign 1 = .ok (.iload_n 1, 1) := by decide +kernel
theorem dX5_insertSign_2 : decode cX5_insertSign 2 = .ok (.invokevirtual 37, 3) := by decide +kernel
theorem dX5_insertSign_5 : decode cX5_insertSign 5 = .ok (.astore 4, 2) := by decide +kernel
theorem dX5_insertSign_7 : decode cX5_insertSign 7 = .ok (.iload_n 2, 1) := by decide +kernel
theorem dX5_insertSign_8 : decode cX5_insertSign 8 = .ok (.ifCond .lt 16, 3) := by decide +kernel
theorem dX5_insertSign_11 : decode cX5_insertSign 11 = .ok (.iload_n 2, 1) := by decide +kernel
theorem dX5_insertSign_12 : decode cX5_insertSign 12 = .ok (.aload 4, 2) := by decide +kernel
theorem dX5_insertSign_14 : decode cX5_insertSign 14 = .ok (.getfield 50, 3) := by decide +kernel
theorem dX5_insertSign_17 : decode cX5_insertSign 17 = .ok (.if_icmp .gt 7, 3) := by decide +kernel
theorem dX5_insertSign_20 : decode cX5_insertSign 20 = .ok (.iconst 1, 1) := by decide +kernel
theorem dX5_insertSign_21 : decode cX5_insertSign 21 = .ok (.goto 4, 3) := by decide +kernel
theorem dX5_insertSign_24 : decode cX5_insertSign 24 = .ok (.iconst 0, 1) := by decide +kernel
theorem dX5_insertSign_25 : decode cX5_insertSign 25 = .ok (.invokestatic 62, 3) := by decide +kernel
theorem dX5_insertSign_28 : decode cX5_insertSign 28 = .ok (.aload_n 0, 1) := by decide +kernel
theorem dX5_insertSign_29 : decode cX5_insertSign 29 = .ok (.getfield 33, 3) := by decide +kernel
theorem dX5_insertSign_32 : decode cX5_insertSign 32 = .ok (.invokevirtual 65, 3) := by decide +kernel
theorem dX5_insertSign_35 : decode cX5_insertSign 35 = .ok (.aload_n 0, 1) := by decide +kernel
theorem dX5_insertSign_36 : decode cX5_insertSign 36 = .ok (.getfield 33, 3) := by decide +kernel
theorem dX5_insertSign_39 : decode cX5_insertSign 39 = .ok (.iload_n 3, 1) := by decide +kernel
theorem dX5_insertSign_40 : decode cX5_insertSign 40 = .ok (.invokevirtual 68, 3) := by decide +kernel
theorem dX5_insertSign_43 : decode cX5_insertSign 43 = .ok (.aload_n 0, 1) := by decide +kernel
theorem dX5_insertSign_44 : decode cX5_insertSign 44 = .ok (.aload 4, 2) := by decide +kernel
theorem dX5_insertSign_46 : decode cX5_insertSign 46 = .ok (.iload_n 2, 1) := by decide +kernel
theorem dX5_insertSign_47 : decode cX5_insertSign 47 = .ok (.iload_n 2, 1) := by decide +kernel
theorem dX5_insertSign_48 : decode cX5_insertSign 48 = .ok (.aload_n 0, 1) := by decide +kernel
theorem dX5_insertSign_49 : decode cX5_insertSign 49 = .ok (.getfield 33, 3) := by decide +kernel
theorem dX5_insertSign_52 : decode cX5_insertSign 52 = .ok (.invokevirtual 58, 3) := by decide +kernel
theorem dX5_insertSign_55 : decode cX5_insertSign 55 = .ok (.ireturn, 1) := by decide +kernel
theorem dX5_insertSheet_0 : decode cX5_insertSheet 0 = .ok (.aload_n 0, 1) := by decide +kernel
theorem dX5_insertSheet_1 : decode cX5_insertSheet 1 = .ok (.iload_n 1, 1) := by decide +kernel
theorem dX5_insertSheet_2 : decode cX5_insertSheet 2 = .ok (.invokevirtual 37, 3) := by decide +kernel
theorem dX5_insertSheet_5 : decode cX5_insertSheet 5 = .ok (.astore 4, 2) := by decide +kernel
theorem dX5_insertSheet_7 : decode cX5_insertSheet 7 = .ok (.aload_n 0, 1) := by decide +kernel
theorem dX5_insertSheet_8 : decode cX5_insertSheet 8 = .ok (.iload_n 3, 1) := by decide +kernel
theorem dX5_insertSheet_9 : decode cX5_insertSheet 9 = .ok (.invokevirtual 37, 3) := by decide +kernel
theorem dX5_insertSheet_12 : decode cX5_insertSheet 12 = .ok (.astore 5, 2) := by decide +kernel
theorem dX5_insertSheet_14 : decode cX5_insertSheet 14 = .ok (.iload_n 2, 1) := by decide +kernel
theorem dX5_insertSheet_15 : decode cX5_insertSheet 15 = .ok (.ifCond .lt 16, 3) := by decide +kernel
theorem dX5_insertSheet_18 : decode cX5_insertSheet 18 = .ok (.iload_n 2, 1) := by decide +kernel
theorem dX5_insertSheet_19 : decode cX5_insertSheet 19 = .ok (.aload 4, 2) := by decide +kernel
theorem dX5_insertSheet_21 : decode cX5_insertSheet 21 = .ok (.getfield 50, 3) := by decide +kernel
theorem dX5_insertSheet_24 : decode cX5_insertSheet 24 = .ok (.if_icmp .gt 7, 3) := by decide +kernel
theorem dX5_insertSheet_27 : decode cX5_insertSheet 27 = .ok (.iconst 1, 1) := by decide +kernel
theorem dX5_insertSheet_28 : decode cX5_insertSheet 28 = .ok (.goto 4, 3) := by decide +kernel
theorem dX5_insertSheet_31 : decode cX5_insertSheet 31 = .ok (.iconst 0, 1) := by decide +kernel
theorem dX5_insertSheet_32 : decode cX5_insertSheet 32 = .ok (.invokestatic 62, 3) := by decide +kernel
theorem dX5_insertSheet_35 : decode cX5_insertSheet 35 = .ok (.aload_n 0, 1) := by decide +kernel
theorem dX5_insertSheet_36 : decode cX5_insertSheet 36 = .ok (.aload 4, 2) := by decide +kernel
theorem dX5_insertSheet_38 : decode cX5_insertSheet 38 = .ok (.iload_n 2, 1) := by decide +kernel
theorem dX5_insertSheet_39 : decode cX5_insertSheet 39 = .ok (.iload_n 2, 1) := by decide +kernel
theorem dX5_insertSheet_40 : decode cX5_insertSheet 40 = .ok (.aload 5, 2) := by decide +kernel
theorem dX5_insertSheet_42 : decode cX5_insertSheet 42 = .ok (.invokevirtual 58, 3) := by decide +kernel
theorem dX5_insertSheet_45 : decode cX5_insertSheet 45 = .ok (.ireturn, 1) := by decide +kernel
theorem dX5_setSign_0 : decode cX5_setSign 0 = .ok (.aload_n 0, 1) := by decide +kernel
theorem dX5_setSign_1 : decode cX5_setSign 1 = .ok (.iload_n 1, 1) := by decide +kernel
theorem dX5_setSign_2 : decode cX5_setSign 2 = .ok (.invokevirtual 37, 3) := by decide +kernel
theorem dX5_setSign_5 : decode cX5_setSign 5 = .ok (.astore 4, 2) := by decide +kernel
theorem dX5_setSign_7 : decode cX5_setSign 7 = .ok (.iload_n 2, 1) := by decide +kernel
theorem dX5_setSign_8 : decode cX5_setSign 8 = .ok (.ifCond .lt 16, 3) := by decide +kernel
theorem dX5_setSign_11 : decode cX5_setSign 11 = .ok (.iload_n 2, 1) := by decide +kernel
theorem dX5_setSign_12 : decode cX5_setSign 12 = .ok (.aload 4, 2) := by decide +kernel
theorem dX5_setSign_14 : decode cX5_setSign 14 = .ok (.getfield 50, 3) := by decide +kernel
theorem dX5_setSign_17 : decode cX5_setSign 17 = .ok (.if_icmp .ge 7, 3) := by decide +kernel
theorem dX5_setSign_20 : decode cX5_setSign 20 = .ok (.iconst 1, 1) := by decide +kernel
theorem dX5_setSign_21 : decode cX5_setSign 21 = .ok (.goto 4, 3) := by decide +kernel
theorem dX5_setSign_24 : decode cX5_setSign 24 = .ok (.iconst 0, 1) := by decide +kernel
theorem dX5_setSign_25 : decode cX5_setSign 25 = .ok (.invokestatic 62, 3) := by decide +kernel
theorem dX5_setSign_28 : decode cX5_setSign 28 = .ok (.aload 4, 2) := by decide +kernel
theorem dX5_setSign_30 : decode cX5_setSign 30 = .ok (.iload_n 2, 1) := by decide +kernel
theorem dX5_setSign_31 : decode cX5_setSign 31 = .ok (.invokevirtual 71, 3) := by decide +kernel
theorem dX5_setSign_34 : decode cX5_setSign 34 = .ok (.iload_n 3, 1) := by decide +kernel
theorem dX5_setSign_35 : decode cX5_setSign 35 = .ok (.if_icmp .eq 7, 3) := by decide +kernel
theorem dX5_setSign_38 : decode cX5_setSign 38 = .ok (.iconst 1, 1) := by decide +kernel
theorem dX5_setSign_39 : decode cX5_setSign 39 = .ok (.goto 4, 3) := by decide +kernel
theorem dX5_setSign_42 : decode cX5_setSign 42 = .ok (.iconst 0, 1) := by decide +kernel
theorem dX5_setSign_43 : decode cX5_setSign 43 = .ok (.istore 5, 2) := by decide +kernel
theorem dX5_setSign_45 : decode cX5_setSign 45 = .ok (.aload 4, 2) := by decide +kernel
theorem dX5_setSign_47 : decode cX5_setSign 47 = .ok (.iload_n 2, 1) := by decide +kernel
theorem dX5_setSign_48 : decode cX5_setSign 48 = .ok (.iload_n 3, 1) := by decide +kernel
theorem dX5_setSign_49 : decode cX5_setSign 49 = .ok (.invokevirtual 75, 3) := by decide +kernel
theorem dX5_setSign_52 : decode cX5_setSign 52 = .ok (.aload_n 0, 1) := by decide +kernel
theorem dX5_setSign_53 : decode cX5_setSign 53 = .ok (.iload 5, 2) := by decide +kernel
theorem dX5_setSign_55 : decode cX5_setSign 55 = .ok (.invokestatic 79, 3) := by decide +kernel
theorem dX5_setSign_58 : decode cX5_setSign 58 = .ok (.invokevirtual 54, 3) := by decide +kernel
theorem dX5_setSign_61 : decode cX5_setSign 61 = .ok (.ireturn, 1) := by decide +kernel
theorem dX5_removeSign_0 : decode cX5_removeSign 0 = .ok (.aload_n 0, 1) := by decide +kernel
theorem dX5_removeSign_1 : decode cX5_removeSign 1 = .ok (.iload_n 1, 1) := by decide +kernel
theorem dX5_removeSign_2 : decode cX5_removeSign 2 = .ok (.invokevirtual 37, 3) := by decide +kernel
theorem dX5_removeSign_5 : decode cX5_removeSign 5 = .ok (.astore_n 3, 1) := by decide +kernel
theorem dX5_removeSign_6 : decode cX5_removeSign 6 = .ok (.iload_n 2, 1) := by decide +kernel
theorem dX5_removeSign_7 : decode cX5_removeSign 7 = .ok (.ifCond .lt 15, 3) := by decide +kernel
theorem dX5_removeSign_10 : decode cX5_removeSign 10 = .ok (.iload_n 2, 1) := by decide +kernel
theorem dX5_removeSign_11 : decode cX5_removeSign 11 = .ok (.aload_n 3, 1) := by decide +kernel
theorem dX5_removeSign_12 : decode cX5_removeSign 12 = .ok (.getfield 50, 3) := by decide +kernel
theorem dX5_removeSign_15 : decode cX5_removeSign 15 = .ok (.if_icmp .ge 7, 3) := by decide +kernel
theorem dX5_removeSign_18 : decode cX5_removeSign 18 = .ok (.iconst 1, 1) := by decide +kernel
theorem dX5_removeSign_19 : decode cX5_removeSign 19 = .ok (.goto 4, 3) := by decide +kernel
theorem dX5_removeSign_22 : decode cX5_removeSign 22 = .ok (.iconst 0, 1) := by decide +kernel
theorem dX5_removeSign_23 : decode cX5_removeSign 23 = .ok (.invokestatic 62, 3) := by decide +kernel
theorem dX5_removeSign_26 : decode cX5_removeSign 26 = .ok (.aload_n 0, 1) := by decide +kernel
theorem dX5_removeSign_27 : decode cX5_removeSign 27 = .ok (.aload_n 3, 1) := by decide +kernel
theorem dX5_removeSign_28 : decode cX5_removeSign 28 = .ok (.iload_n 2, 1) := by decide +kernel
theorem dX5_removeSign_29 : decode cX5_removeSign 29 = .ok (.iload_n 2, 1) := by decide +kernel
theorem dX5_removeSign_30 : decode cX5_removeSign 30 = .ok (.iconst 1, 1) := by decide +kernel
theorem dX5_removeSign_31 : decode cX5_removeSign 31 = .ok (.iadd, 1) := by decide +kernel
theorem dX5_removeSign_32 : decode cX5_removeSign 32 = .ok (.invokevirtual 83, 3) := by decide +kernel
theorem dX5_removeSign_35 : decode cX5_removeSign 35 = .ok (.ireturn, 1) := by decide +kernel
theorem dX5_remove_0 : decode cX5_remove 0 = .ok (.aload_n 0, 1) := by decide +kernel
theorem dX5_remove_1 : decode cX5_remove 1 = .ok (.iload_n 1, 1) := by decide +kernel
theorem dX5_remove_2 : decode cX5_remove 2 = .ok (.invokevirtual 37, 3) := by decide +kernel
theorem dX5_remove_5 : decode cX5_remove 5 = .ok (.astore 4, 2) := by decide +kernel
theorem dX5_remove_7 : decode cX5_remove 7 = .ok (.iload_n 2, 1) := by decide +kernel
theorem dX5_remove_8 : decode cX5_remove 8 = .ok (.ifCond .lt 21, 3) := by decide +kernel
theorem dX5_remove_11 : decode cX5_remove 11 = .ok (.iload_n 2, 1) := by decide +kernel
theorem dX5_remove_12 : decode cX5_remove 12 = .ok (.iload_n 3, 1) := by decide +kernel
theorem dX5_remove_13 : decode cX5_remove 13 = .ok (.if_icmp .gt 16, 3) := by decide +kernel
theorem dX5_remove_16 : decode cX5_remove 16 = .ok (.iload_n 3, 1) := by decide +kernel
theorem dX5_remove_17 : decode cX5_remove 17 = .ok (.aload 4, 2) := by decide +kernel
theorem dX5_remove_19 : decode cX5_remove 19 = .ok (.getfield 50, 3) := by decide +kernel
theorem dX5_remove_22 : decode cX5_remove 22 = .ok (.if_icmp .gt 7, 3) := by decide +kernel
theorem dX5_remove_25 : decode cX5_remove 25 = .ok (.iconst 1, 1) := by decide +kernel
theorem dX5_remove_26 : decode cX5_remove 26 = .ok (.goto 4, 3) := by decide +kernel
theorem dX5_remove_29 : decode cX5_remove 29 = .ok (.iconst 0, 1) := by decide +kernel
theorem dX5_remove_30 : decode cX5_remove 30 = .ok (.invokestatic 62, 3) := by decide +kernel
theorem dX5_remove_33 : decode cX5_remove 33 = .ok (.aload_n 0, 1) := by decide +kernel
theorem dX5_remove_34 : decode cX5_remove 34 = .ok (.aload 4, 2) := by decide +kernel
theorem dX5_remove_36 : decode cX5_remove 36 = .ok (.iload_n 2, 1) := by decide +kernel
theorem dX5_remove_37 : decode cX5_remove 37 = .ok (.iload_n 3, 1) := by decide +kernel
theorem dX5_remove_38 : decode cX5_remove 38 = .ok (.invokevirtual 83, 3) := by decide +kernel
theorem dX5_remove_41 : decode cX5_remove 41 = .ok (.ireturn, 1) := by decide +kernel
theorem dX5_replace_0 : decode cX5_replace 0 = .ok (.aload_n 0, 1) := by decide +kernel
theorem dX5_replace_1 : decode cX5_replace 1 = .ok (.iload_n 1, 1) := by decide +kernel
theorem dX5_replace_2 : decode cX5_replace 2 = .ok (.invokevirtual 37, 3) := by decide +kernel
theorem dX5_replace_5 : decode cX5_replace 5 = .ok (.astore 5, 2) := by decide +kernel
theorem dX5_replace_7 : decode cX5_replace 7 = .ok (.aload_n 0, 1) := by decide +kernel
theorem dX5_replace_8 : decode cX5_replace 8 = .ok (.iload 4, 2) := by decide +kernel
theorem dX5_replace_10 : decode cX5_replace 10 = .ok (.invokevirtual 37, 3) := by decide +kernel
theorem dX5_replace_13 : decode cX5_replace 13 = .ok (.astore 6, 2) := by decide +kernel
theorem dX5_replace_15 : decode cX5_replace 15 = .ok (.iload_n 2, 1) := by decide +kernel
theorem dX5_replace_16 : decode cX5_replace 16 = .ok (.ifCond .lt 21, 3) := by decide +kernel
theorem dX5_replace_19 : decode cX5_replace 19 = .ok (.iload_n 2, 1) := by decide +kernel
theorem dX5_replace_20 : decode cX5_replace 20 = .ok (.iload_n 3, 1) := by decide +kernel
theorem dX5_replace_21 : decode cX5_replace 21 = .ok (.if_icmp .gt 16, 3) := by decide +kernel
theorem dX5_replace_24 : decode cX5_replace 24 = .ok (.iload_n 3, 1) := by decide +kernel
theorem dX5_replace_25 : decode cX5_replace 25 = .ok (.aload 5, 2) := by decide +kernel
theorem dX5_replace_27 : decode cX5_replace 27 = .ok (.getfield 50, 3) := by decide +kernel
theorem dX5_replace_30 : decode cX5_replace 30 = .ok (.if_icmp .gt 7, 3) := by decide +kernel
theorem dX5_replace_33 : decode cX5_replace 33 = .ok (.iconst 1, 1) := by decide +kernel
theorem dX5_replace_34 : decode cX5_replace 34 = .ok (.goto 4, 3) := by decide +kernel
theorem dX5_replace_37 : decode cX5_replace 37 = .ok (.iconst 0, 1) := by decide +kernel
theorem dX5_replace_38 : decode cX5_replace 38 = .ok (.invokestatic 62, 3) := by decide +kernel
theorem dX5_replace_41 : decode cX5_replace 41 = .ok (.aload_n 0, 1) := by decide +kernel
theorem dX5_replace_42 : decode cX5_replace 42 = .ok (.aload 5, 2) := by decide +kernel
theorem dX5_replace_44 : decode cX5_replace 44 = .ok (.iload_n 2, 1) := by decide +kernel
theorem dX5_replace_45 : decode cX5_replace 45 = .ok (.iload_n 3, 1) := by decide +kernel
theorem dX5_replace_46 : decode cX5_replace 46 = .ok (.aload 6, 2) := by decide +kernel
theorem dX5_replace_48 : decode cX5_replace 48 = .ok (.invokevirtual 58, 3) := by decide +kernel
theorem dX5_replace_51 : decode cX5_replace 51 = .ok (.ireturn, 1) := by decide +kernel
theorem dX5_cutTo_0 : decode cX5_cutTo 0 = .ok (.aload_n 0, 1) := by decide +kernel
theorem dX5_cutTo_1 : decode cX5_cutTo 1 = .ok (.iload_n 1, 1) := by decide +kernel
theorem dX5_cutTo_2 : decode cX5_cutTo 2 = .ok (.invokevirtual 37, 3) := by decide +kernel
theorem dX5_cutTo_5 : decode cX5_cutTo 5 = .ok (.astore_n 3, 1) := by decide +kernel
theorem dX5_cutTo_6 : decode cX5_cutTo 6 = .ok (.iload_n 2, 1) := by decide +kernel
theorem dX5_cutTo_7 : decode cX5_cutTo 7 = .ok (.ifCond .lt 13, 3) := by decide +kernel
theorem dX5_cutTo_10 : decode cX5_cutTo 10 = .ok (.iload_n 2, 1) := by decide +kernel
theorem dX5_cutTo_11 : decode cX5_cutTo 11 = .ok (.bipush 64, 2) := by decide +kernel
theorem dX5_cutTo_13 : decode cX5_cutTo 13 = .ok (.if_icmp .gt 7, 3) := by decide +kernel
theorem dX5_cutTo_16 : decode cX5_cutTo 16 = .ok (.iconst 1, 1) := by decide +kernel
theorem dX5_cutTo_17 : decode cX5_cutTo 17 = .ok (.goto 4, 3) := by decide +kernel
theorem dX5_cutTo_20 : decode cX5_cutTo 20 = .ok (.iconst 0, 1) := by decide +kernel
theorem dX5_cutTo_21 : decode cX5_cutTo 21 = .ok (.invokestatic 42, 3) := by decide +kernel
theorem dX5_cutTo_24 : decode cX5_cutTo 24 = .ok (.aload_n 3, 1) := by decide +kernel
theorem dX5_cutTo_25 : decode cX5_cutTo 25 = .ok (.getfield 50, 3) := by decide +kernel
theorem dX5_cutTo_28 : decode cX5_cutTo 28 = .ok (.istore 4, 2) := by decide +kernel
theorem dX5_cutTo_30 : decode cX5_cutTo 30 = .ok (.aload_n 0, 1) := by decide +kernel
theorem dX5_cutTo_31 : decode cX5_cutTo 31 = .ok (.getfield 29, 3) := by decide +kernel
theorem dX5_cutTo_34 : decode cX5_cutTo 34 = .ok (.invokevirtual 65, 3) := by decide +kernel
theorem dX5_cutTo_37 : decode cX5_cutTo 37 = .ok (.aload_n 0, 1) := by decide +kernel
theorem dX5_cutTo_38 : decode cX5_cutTo 38 = .ok (.getfield 29, 3) := by decide +kernel
theorem dX5_cutTo_41 : decode cX5_cutTo 41 = .ok (.aload_n 3, 1) := by decide +kernel
theorem dX5_cutTo_42 : decode cX5_cutTo 42 = .ok (.iconst 0, 1) := by decide +kernel
theorem dX5_cutTo_43 : decode cX5_cutTo 43 = .ok (.iload 4, 2) := by decide +kernel
theorem dX5_cutTo_45 : decode cX5_cutTo 45 = .ok (.iload_n 2, 1) := by decide +kernel
theorem dX5_cutTo_46 : decode cX5_cutTo 46 = .ok (.invokestatic 87, 3) := by decide +kernel
theorem dX5_cutTo_49 : decode cX5_cutTo 49 = .ok (.invokevirtual 93, 3) := by decide +kernel
theorem dX5_cutTo_52 : decode cX5_cutTo 52 = .ok (.iload 4, 2) := by decide +kernel
theorem dX5_cutTo_54 : decode cX5_cutTo 54 = .ok (.istore 5, 2) := by decide +kernel
theorem dX5_cutTo_56 : decode cX5_cutTo 56 = .ok (.iload 5, 2) := by decide +kernel
theorem dX5_cutTo_58 : decode cX5_cutTo 58 = .ok (.iload_n 2, 1) := by decide +kernel
theorem dX5_cutTo_59 : decode cX5_cutTo 59 = .ok (.if_icmp .ge 17, 3) := by decide +kernel
theorem dX5_cutTo_62 : decode cX5_cutTo 62 = .ok (.aload_n 0, 1) := by decide +kernel
theorem dX5_cutTo_63 : decode cX5_cutTo 63 = .ok (.getfield 29, 3) := by decide +kernel
theorem dX5_cutTo_66 : decode cX5_cutTo 66 = .ok (.iconst 0, 1) := by decide +kernel
theorem dX5_cutTo_67 : decode cX5_cutTo 67 = .ok (.invokevirtual 68, 3) := by decide +kernel
theorem dX5_cutTo_70 : decode cX5_cutTo 70 = .ok (.iinc 5 1, 3) := by decide +kernel
theorem dX5_cutTo_73 : decode cX5_cutTo 73 = .ok (.goto (-17), 3) := by decide +kernel
theorem dX5_cutTo_76 : decode cX5_cutTo 76 = .ok (.aload_n 3, 1) := by decide +kernel
theorem dX5_cutTo_77 : decode cX5_cutTo 77 = .ok (.aload_n 0, 1) := by decide +kernel
theorem dX5_cutTo_78 : decode cX5_cutTo 78 = .ok (.getfield 29, 3) := by decide +kernel
theorem dX5_cutTo_81 : decode cX5_cutTo 81 = .ok (.invokevirtual 97, 3) := by decide +kernel
theorem dX5_cutTo_84 : decode cX5_cutTo 84 = .ok (.aload_n 0, 1) := by decide +kernel
theorem dX5_cutTo_85 : decode cX5_cutTo 85 = .ok (.iload 4, 2) := by decide +kernel
theorem dX5_cutTo_87 : decode cX5_cutTo 87 = .ok (.invokevirtual 54, 3) := by decide +kernel
theorem dX5_cutTo_90 : decode cX5_cutTo 90 = .ok (.ireturn, 1) := by decide +kernel
theorem dX5_turn_0 : decode cX5_turn 0 = .ok (.aload_n 0, 1) := by decide +kernel
theorem dX5_turn_1 : decode cX5_turn 1 = .ok (.iload_n 1, 1) := by decide +kernel
theorem dX5_turn_2 : decode cX5_turn 2 = .ok (.invokevirtual 37, 3) := by decide +kernel
theorem dX5_turn_5 : decode cX5_turn 5 = .ok (.astore_n 2, 1) := by decide +kernel
theorem dX5_turn_6 : decode cX5_turn 6 = .ok (.aload_n 0, 1) := by decide +kernel
theorem dX5_turn_7 : decode cX5_turn 7 = .ok (.getfield 29, 3) := by decide +kernel
theorem dX5_turn_10 : decode cX5_turn 10 = .ok (.aload_n 2, 1) := by decide +kernel
theorem dX5_turn_11 : decode cX5_turn 11 = .ok (.invokevirtual 101, 3) := by decide +kernel
theorem dX5_turn_14 : decode cX5_turn 14 = .ok (.aload_n 0, 1) := by decide +kernel
theorem dX5_turn_15 : decode cX5_turn 15 = .ok (.aload_n 2, 1) := by decide +kernel
theorem dX5_turn_16 : decode cX5_turn 16 = .ok (.aload_n 0, 1) := by decide +kernel
theorem dX5_turn_17 : decode cX5_turn 17 = .ok (.getfield 29, 3) := by decide +kernel
theorem dX5_turn_20 : decode cX5_turn 20 = .ok (.invokevirtual 104, 3) := by decide +kernel
theorem dX5_turn_23 : decode cX5_turn 23 = .ok (.ireturn, 1) := by decide +kernel
theorem dX5_exchange_0 : decode cX5_exchange 0 = .ok (.aload_n 0, 1) := by decide +kernel
theorem dX5_exchange_1 : decode cX5_exchange 1 = .ok (.iload_n 1, 1) := by decide +kernel
theorem dX5_exchange_2 : decode cX5_exchange 2 = .ok (.invokevirtual 37, 3) := by decide +kernel
theorem dX5_exchange_5 : decode cX5_exchange 5 = .ok (.astore_n 2, 1) := by decide +kernel
theorem dX5_exchange_6 : decode cX5_exchange 6 = .ok (.iconst 0, 1) := by decide +kernel
theorem dX5_exchange_7 : decode cX5_exchange 7 = .ok (.istore_n 3, 1) := by decide +kernel
theorem dX5_exchange_8 : decode cX5_exchange 8 = .ok (.iload_n 3, 1) := by decide +kernel
theorem dX5_exchange_9 : decode cX5_exchange 9 = .ok (.aload_n 2, 1) := by decide +kernel
theorem dX5_exchange_10 : decode cX5_exchange 10 = .ok (.getfield 50, 3) := by decide +kernel
theorem dX5_exchange_13 : decode cX5_exchange 13 = .ok (.if_icmp .ge 27, 3) := by decide +kernel
theorem dX5_exchange_16 : decode cX5_exchange 16 = .ok (.aload_n 2, 1) := by decide +kernel
theorem dX5_exchange_17 : decode cX5_exchange 17 = .ok (.iload_n 3, 1) := by decide +kernel
theorem dX5_exchange_18 : decode cX5_exchange 18 = .ok (.aload_n 2, 1) := by decide +kernel
theorem dX5_exchange_19 : decode cX5_exchange 19 = .ok (.iload_n 3, 1) := by decide +kernel
theorem dX5_exchange_20 : decode cX5_exchange 20 = .ok (.invokevirtual 71, 3) := by decide +kernel
theorem dX5_exchange_23 : decode cX5_exchange 23 = .ok (.ifCond .ne 7, 3) := by decide +kernel
theorem dX5_exchange_26 : decode cX5_exchange 26 = .ok (.iconst 1, 1) := by decide +kernel
theorem dX5_exchange_27 : decode cX5_exchange 27 = .ok (.goto 4, 3) := by decide +kernel
theorem dX5_exchange_30 : decode cX5_exchange 30 = .ok (.iconst 0, 1) := by decide +kernel
theorem dX5_exchange_31 : decode cX5_exchange 31 = .ok (.invokevirtual 75, 3) := by decide +kernel
theorem dX5_exchange_34 : decode cX5_exchange 34 = .ok (.iinc 3 1, 3) := by decide +kernel
theorem dX5_exchange_37 : decode cX5_exchange 37 = .ok (.goto (-29), 3) := by decide +kernel
theorem dX5_exchange_40 : decode cX5_exchange 40 = .ok (.aload_n 0, 1) := by decide +kernel
theorem dX5_exchange_41 : decode cX5_exchange 41 = .ok (.aload_n 2, 1) := by decide +kernel
theorem dX5_exchange_42 : decode cX5_exchange 42 = .ok (.invokestatic 108, 3) := by decide +kernel
theorem dX5_exchange_45 : decode cX5_exchange 45 = .ok (.invokevirtual 54, 3) := by decide +kernel
theorem dX5_exchange_48 : decode cX5_exchange 48 = .ok (.ireturn, 1) := by decide +kernel
theorem dX5_rotate_0 : decode cX5_rotate 0 = .ok (.aload_n 0, 1) := by decide +kernel
theorem dX5_rotate_1 : decode cX5_rotate 1 = .ok (.iload_n 1, 1) := by decide +kernel
theorem dX5_rotate_2 : decode cX5_rotate 2 = .ok (.invokevirtual 37, 3) := by decide +kernel
theorem dX5_rotate_5 : decode cX5_rotate 5 = .ok (.astore_n 3, 1) := by decide +kernel
theorem dX5_rotate_6 : decode cX5_rotate 6 = .ok (.iload_n 2, 1) := by decide +kernel
theorem dX5_rotate_7 : decode cX5_rotate 7 = .ok (.ifCond .lt 15, 3) := by decide +kernel
theorem dX5_rotate_10 : decode cX5_rotate 10 = .ok (.iload_n 2, 1) := by decide +kernel
theorem dX5_rotate_11 : decode cX5_rotate 11 = .ok (.aload_n 3, 1) := by decide +kernel
theorem dX5_rotate_12 : decode cX5_rotate 12 = .ok (.getfield 50, 3) := by decide +kernel
theorem dX5_rotate_15 : decode cX5_rotate 15 = .ok (.if_icmp .gt 7, 3) := by decide +kernel
theorem dX5_rotate_18 : decode cX5_rotate 18 = .ok (.iconst 1, 1) := by decide +kernel
theorem dX5_rotate_19 : decode cX5_rotate 19 = .ok (.goto 4, 3) := by decide +kernel
theorem dX5_rotate_22 : decode cX5_rotate 22 = .ok (.iconst 0, 1) := by decide +kernel
theorem dX5_rotate_23 : decode cX5_rotate 23 = .ok (.invokestatic 42, 3) := by decide +kernel
theorem dX5_rotate_26 : decode cX5_rotate 26 = .ok (.aload_n 0, 1) := by decide +kernel
theorem dX5_rotate_27 : decode cX5_rotate 27 = .ok (.getfield 29, 3) := by decide +kernel
theorem dX5_rotate_30 : decode cX5_rotate 30 = .ok (.invokevirtual 65, 3) := by decide +kernel
theorem dX5_rotate_33 : decode cX5_rotate 33 = .ok (.aload_n 0, 1) := by decide +kernel
theorem dX5_rotate_34 : decode cX5_rotate 34 = .ok (.getfield 29, 3) := by decide +kernel
theorem dX5_rotate_37 : decode cX5_rotate 37 = .ok (.aload_n 3, 1) := by decide +kernel
theorem dX5_rotate_38 : decode cX5_rotate 38 = .ok (.iload_n 2, 1) := by decide +kernel
theorem dX5_rotate_39 : decode cX5_rotate 39 = .ok (.aload_n 3, 1) := by decide +kernel
theorem dX5_rotate_40 : decode cX5_rotate 40 = .ok (.getfield 50, 3) := by decide +kernel
theorem dX5_rotate_43 : decode cX5_rotate 43 = .ok (.invokevirtual 93, 3) := by decide +kernel
theorem dX5_rotate_46 : decode cX5_rotate 46 = .ok (.aload_n 0, 1) := by decide +kernel
theorem dX5_rotate_47 : decode cX5_rotate 47 = .ok (.getfield 29, 3) := by decide +kernel
theorem dX5_rotate_50 : decode cX5_rotate 50 = .ok (.aload_n 3, 1) := by decide +kernel
theorem dX5_rotate_51 : decode cX5_rotate 51 = .ok (.iconst 0, 1) := by decide +kernel
theorem dX5_rotate_52 : decode cX5_rotate 52 = .ok (.iload_n 2, 1) := by decide +kernel
theorem dX5_rotate_53 : decode cX5_rotate 53 = .ok (.invokevirtual 93, 3) := by decide +kernel
theorem dX5_rotate_56 : decode cX5_rotate 56 = .ok (.aload_n 0, 1) := by decide +kernel
theorem dX5_rotate_57 : decode cX5_rotate 57 = .ok (.aload_n 3, 1) := by decide +kernel
theorem dX5_rotate_58 : decode cX5_rotate 58 = .ok (.aload_n 0, 1) := by decide +kernel
theorem dX5_rotate_59 : decode cX5_rotate 59 = .ok (.getfield 29, 3) := by decide +kernel
theorem dX5_rotate_62 : decode cX5_rotate 62 = .ok (.invokevirtual 104, 3) := by decide +kernel
theorem dX5_rotate_65 : decode cX5_rotate 65 = .ok (.ireturn, 1) := by decide +kernel
theorem dX5_copy_0 : decode cX5_copy 0 = .ok (.aload_n 0, 1) := by decide +kernel
theorem dX5_copy_1 : decode cX5_copy 1 = .ok (.iload_n 1, 1) := by decide +kernel
theorem dX5_copy_2 : decode cX5_copy 2 = .ok (.invokevirtual 37, 3) := by decide +kernel
theorem dX5_copy_5 : decode cX5_copy 5 = .ok (.astore_n 3, 1) := by decide +kernel
theorem dX5_copy_6 : decode cX5_copy 6 = .ok (.aload_n 0, 1) := by decide +kernel
theorem dX5_copy_7 : decode cX5_copy 7 = .ok (.aload_n 0, 1) := by decide +kernel
theorem dX5_copy_8 : decode cX5_copy 8 = .ok (.iload_n 2, 1) := by decide +kernel
theorem dX5_copy_9 : decode cX5_copy 9 = .ok (.invokevirtual 37, 3) := by decide +kernel
theorem dX5_copy_12 : decode cX5_copy 12 = .ok (.aload_n 3, 1) := by decide +kernel
theorem dX5_copy_13 : decode cX5_copy 13 = .ok (.invokevirtual 104, 3) := by decide +kernel
theorem dX5_copy_16 : decode cX5_copy 16 = .ok (.ireturn, 1) := by decide +kernel
theorem dX5_apply_0 : decode cX5_apply 0 = .ok (.aload_n 0, 1) := by decide +kernel
theorem dX5_apply_1 : decode cX5_apply 1 = .ok (.iload_n 1, 1) := by decide +kernel
theorem dX5_apply_2 : decode cX5_apply 2 = .ok (.invokevirtual 37, 3) := by decide +kernel
theorem dX5_apply_5 : decode cX5_apply 5 = .ok (.astore 4, 2) := by decide +kernel
theorem dX5_apply_7 : decode cX5_apply 7 = .ok (.aload_n 0, 1) := by decide +kernel
theorem dX5_apply_8 : decode cX5_apply 8 = .ok (.iload_n 2, 1) := by decide +kernel
theorem dX5_apply_9 : decode cX5_apply 9 = .ok (.iload_n 3, 1) := by decide +kernel
theorem dX5_apply_10 : decode cX5_apply 10 = .ok (.invokevirtual 114, 3) := by decide +kernel
theorem dX5_apply_13 : decode cX5_apply 13 = .ok (.aload_n 0, 1) := by decide +kernel
theorem dX5_apply_14 : decode cX5_apply 14 = .ok (.getfield 24, 3) := by decide +kernel
theorem dX5_apply_17 : decode cX5_apply 17 = .ok (.aload 4, 2) := by decide +kernel
theorem dX5_apply_19 : decode cX5_apply 19 = .ok (.invokevirtual 118, 3) := by decide +kernel
theorem dX5_apply_22 : decode cX5_apply 22 = .ok (.bipush 64, 2) := by decide +kernel
theorem dX5_apply_24 : decode cX5_apply 24 = .ok (.if_icmp .le 8, 3) := by decide +kernel
theorem dX5_apply_27 : decode cX5_apply 27 = .ok (.aload_n 0, 1) := by decide +kernel
theorem dX5_apply_28 : decode cX5_apply 28 = .ok (.invokevirtual 121, 3) := by decide +kernel
theorem dX5_apply_31 : decode cX5_apply 31 = .ok (.ireturn, 1) := by decide +kernel
theorem dX5_apply_32 : decode cX5_apply 32 = .ok (.aload_n 0, 1) := by decide +kernel
theorem dX5_apply_33 : decode cX5_apply 33 = .ok (.getfield 24, 3) := by decide +kernel
theorem dX5_apply_36 : decode cX5_apply 36 = .ok (.aload 4, 2) := by decide +kernel
theorem dX5_apply_38 : decode cX5_apply 38 = .ok (.aload_n 0, 1) := by decide +kernel
theorem dX5_apply_39 : decode cX5_apply 39 = .ok (.getfield 29, 3) := by decide +kernel
theorem dX5_apply_42 : decode cX5_apply 42 = .ok (.invokevirtual 125, 3) := by decide +kernel
theorem dX5_apply_45 : decode cX5_apply 45 = .ok (.aload 4, 2) := by decide +kernel
theorem dX5_apply_47 : decode cX5_apply 47 = .ok (.aload_n 0, 1) := by decide +kernel
theorem dX5_apply_48 : decode cX5_apply 48 = .ok (.getfield 29, 3) := by decide +kernel
theorem dX5_apply_51 : decode cX5_apply 51 = .ok (.invokevirtual 97, 3) := by decide +kernel
theorem dX5_apply_54 : decode cX5_apply 54 = .ok (.aload_n 0, 1) := by decide +kernel
theorem dX5_apply_55 : decode cX5_apply 55 = .ok (.aload 4, 2) := by decide +kernel
theorem dX5_apply_57 : decode cX5_apply 57 = .ok (.getfield 50, 3) := by decide +kernel
theorem dX5_apply_60 : decode cX5_apply 60 = .ok (.invokevirtual 54, 3) := by decide +kernel
theorem dX5_apply_63 : decode cX5_apply 63 = .ok (.ireturn, 1) := by decide +kernel
theorem dX5_undo_0 : decode cX5_undo 0 = .ok (.aload_n 0, 1) := by decide +kernel
theorem dX5_undo_1 : decode cX5_undo 1 = .ok (.iload_n 1, 1) := by decide +kernel
theorem dX5_undo_2 : decode cX5_undo 2 = .ok (.invokevirtual 37, 3) := by decide +kernel
theorem dX5_undo_5 : decode cX5_undo 5 = .ok (.astore 4, 2) := by decide +kernel
theorem dX5_undo_7 : decode cX5_undo 7 = .ok (.aload_n 0, 1) := by decide +kernel
theorem dX5_undo_8 : decode cX5_undo 8 = .ok (.iload_n 2, 1) := by decide +kernel
theorem dX5_undo_9 : decode cX5_undo 9 = .ok (.iload_n 3, 1) := by decide +kernel
theorem dX5_undo_10 : decode cX5_undo 10 = .ok (.invokevirtual 114, 3) := by decide +kernel
theorem dX5_undo_13 : decode cX5_undo 13 = .ok (.aload_n 0, 1) := by decide +kernel
theorem dX5_undo_14 : decode cX5_undo 14 = .ok (.getfield 24, 3) := by decide +kernel
theorem dX5_undo_17 : decode cX5_undo 17 = .ok (.invokevirtual 129, 3) := by decide +kernel
theorem dX5_undo_20 : decode cX5_undo 20 = .ok (.invokestatic 133, 3) := by decide +kernel
theorem dX5_undo_23 : decode cX5_undo 23 = .ok (.aload_n 0, 1) := by decide +kernel
theorem dX5_undo_24 : decode cX5_undo 24 = .ok (.getfield 24, 3) := by decide +kernel
theorem dX5_undo_27 : decode cX5_undo 27 = .ok (.aload 4, 2) := by decide +kernel
theorem dX5_undo_29 : decode cX5_undo 29 = .ok (.aload_n 0, 1) := by decide +kernel
theorem dX5_undo_30 : decode cX5_undo 30 = .ok (.getfield 29, 3) := by decide +kernel
theorem dX5_undo_33 : decode cX5_undo 33 = .ok (.invokevirtual 136, 3) := by decide +kernel
theorem dX5_undo_36 : decode cX5_undo 36 = .ok (.ifCond .ne 8, 3) := by decide +kernel
theorem dX5_undo_39 : decode cX5_undo 39 = .ok (.aload_n 0, 1) := by decide +kernel
theorem dX5_undo_40 : decode cX5_undo 40 = .ok (.invokevirtual 121, 3) := by decide +kernel
theorem dX5_undo_43 : decode cX5_undo 43 = .ok (.ireturn, 1) := by decide +kernel
theorem dX5_undo_44 : decode cX5_undo 44 = .ok (.aload 4, 2) := by decide +kernel
theorem dX5_undo_46 : decode cX5_undo 46 = .ok (.aload_n 0, 1) := by decide +kernel
theorem dX5_undo_47 : decode cX5_undo 47 = .ok (.getfield 29, 3) := by decide +kernel
theorem dX5_undo_50 : decode cX5_undo 50 = .ok (.invokevirtual 97, 3) := by decide +kernel
theorem dX5_undo_53 : decode cX5_undo 53 = .ok (.aload_n 0, 1) := by decide +kernel
theorem dX5_undo_54 : decode cX5_undo 54 = .ok (.aload 4, 2) := by decide +kernel
theorem dX5_undo_56 : decode cX5_undo 56 = .ok (.getfield 50, 3) := by decide +kernel
theorem dX5_undo_59 : decode cX5_undo 59 = .ok (.invokevirtual 54, 3) := by decide +kernel
theorem dX5_undo_62 : decode cX5_undo 62 = .ok (.ireturn, 1) := by decide +kernel
theorem dX5_lay_0 : decode cX5_lay 0 = .ok (.aload_n 0, 1) := by decide +kernel
theorem dX5_lay_1 : decode cX5_lay 1 = .ok (.iload_n 1, 1) := by decide +kernel
theorem dX5_lay_2 : decode cX5_lay 2 = .ok (.invokevirtual 140, 3) := by decide +kernel
theorem dX5_lay_5 : decode cX5_lay 5 = .ok (.astore 4, 2) := by decide +kernel
theorem dX5_lay_7 : decode cX5_lay 7 = .ok (.aload_n 0, 1) := by decide +kernel
theorem dX5_lay_8 : decode cX5_lay 8 = .ok (.iload_n 2, 1) := by decide +kernel
theorem dX5_lay_9 : decode cX5_lay 9 = .ok (.invokevirtual 37, 3) := by decide +kernel
theorem dX5_lay_12 : decode cX5_lay 12 = .ok (.astore 5, 2) := by decide +kernel
theorem dX5_lay_14 : decode cX5_lay 14 = .ok (.iload_n 3, 1) := by decide +kernel
theorem dX5_lay_15 : decode cX5_lay 15 = .ok (.ifCond .lt 12, 3) := by decide +kernel
theorem dX5_lay_18 : decode cX5_lay 18 = .ok (.iload_n 3, 1) := by decide +kernel
theorem dX5_lay_19 : decode cX5_lay 19 = .ok (.iconst 2, 1) := by decide +kernel
theorem dX5_lay_20 : decode cX5_lay 20 = .ok (.if_icmp .gt 7, 3) := by decide +kernel
theorem dX5_lay_23 : decode cX5_lay 23 = .ok (.iconst 1, 1) := by decide +kernel
theorem dX5_lay_24 : decode cX5_lay 24 = .ok (.goto 4, 3) := by decide +kernel
theorem dX5_lay_27 : decode cX5_lay 27 = .ok (.iconst 0, 1) := by decide +kernel
theorem dX5_lay_28 : decode cX5_lay 28 = .ok (.invokestatic 42, 3) := by decide +kernel
theorem dX5_lay_31 : decode cX5_lay 31 = .ok (.iload_n 3, 1) := by decide +kernel
theorem dX5_lay_32 : decode cX5_lay 32 = .ok (.ifCond .ne 16, 3) := by decide +kernel
theorem dX5_lay_35 : decode cX5_lay 35 = .ok (.aload 5, 2) := by decide +kernel
theorem dX5_lay_37 : decode cX5_lay 37 = .ok (.aload 4, 2) := by decide +kernel
theorem dX5_lay_39 : decode cX5_lay 39 = .ok (.getfield 144, 3) := by decide +kernel
theorem dX5_lay_42 : decode cX5_lay 42 = .ok (.invokevirtual 97, 3) := by decide +kernel
theorem dX5_lay_45 : decode cX5_lay 45 = .ok (.goto 33, 3) := by decide +kernel
theorem dX5_lay_48 : decode cX5_lay 48 = .ok (.iload_n 3, 1) := by decide +kernel
theorem dX5_lay_49 : decode cX5_lay 49 = .ok (.iconst 1, 1) := by decide +kernel
theorem dX5_lay_50 : decode cX5_lay 50 = .ok (.if_icmp .ne 21, 3) := by decide +kernel
theorem dX5_lay_53 : decode cX5_lay 53 = .ok (.aload 4, 2) := by decide +kernel
theorem dX5_lay_55 : decode cX5_lay 55 = .ok (.aload 5, 2) := by decide +kernel
theorem dX5_lay_57 : decode cX5_lay 57 = .ok (.aload_n 0, 1) := by decide +kernel
theorem dX5_lay_58 : decode cX5_lay 58 = .ok (.getfield 29, 3) := by decide +kernel
theorem dX5_lay_61 : decode cX5_lay 61 = .ok (.aload_n 0, 1) := by decide +kernel
theorem dX5_lay_62 : decode cX5_lay 62 = .ok (.getfield 24, 3) := by decide +kernel
theorem dX5_lay_65 : decode cX5_lay 65 = .ok (.invokevirtual 147, 3) := by decide +kernel
theorem dX5_lay_68 : decode cX5_lay 68 = .ok (.goto 10, 3) := by decide +kernel
theorem dX5_lay_71 : decode cX5_lay 71 = .ok (.aload 4, 2) := by decide +kernel
theorem dX5_lay_73 : decode cX5_lay 73 = .ok (.aload 5, 2) := by decide +kernel
theorem dX5_lay_75 : decode cX5_lay 75 = .ok (.invokevirtual 151, 3) := by decide +kernel
theorem dX5_lay_78 : decode cX5_lay 78 = .ok (.aload_n 0, 1) := by decide +kernel
theorem dX5_lay_79 : decode cX5_lay 79 = .ok (.aload 5, 2) := by decide +kernel
theorem dX5_lay_81 : decode cX5_lay 81 = .ok (.getfield 50, 3) := by decide +kernel
theorem dX5_lay_84 : decode cX5_lay 84 = .ok (.invokevirtual 54, 3) := by decide +kernel
theorem dX5_lay_87 : decode cX5_lay 87 = .ok (.ireturn, 1) := by decide +kernel
theorem dX5_twos_0 : decode cX5_twos 0 = .ok (.aload_n 0, 1) := by decide +kernel
theorem dX5_twos_1 : decode cX5_twos 1 = .ok (.iload_n 1, 1) := by decide +kernel
theorem dX5_twos_2 : decode cX5_twos 2 = .ok (.invokevirtual 37, 3) := by decide +kernel
theorem dX5_twos_5 : decode cX5_twos 5 = .ok (.astore 4, 2) := by decide +kernel
theorem dX5_twos_7 : decode cX5_twos 7 = .ok (.iload_n 2, 1) := by decide +kernel
theorem dX5_twos_8 : decode cX5_twos 8 = .ok (.ifCond .lt 13, 3) := by decide +kernel
theorem dX5_twos_11 : decode cX5_twos 11 = .ok (.iload_n 2, 1) := by decide +kernel
theorem dX5_twos_12 : decode cX5_twos 12 = .ok (.bipush 6, 2) := by decide +kernel
theorem dX5_twos_14 : decode cX5_twos 14 = .ok (.if_icmp .gt 7, 3) := by decide +kernel
theorem dX5_twos_17 : decode cX5_twos 17 = .ok (.iconst 1, 1) := by decide +kernel
theorem dX5_twos_18 : decode cX5_twos 18 = .ok (.goto 4, 3) := by decide +kernel
theorem dX5_twos_21 : decode cX5_twos 21 = .ok (.iconst 0, 1) := by decide +kernel
theorem dX5_twos_22 : decode cX5_twos 22 = .ok (.invokestatic 42, 3) := by decide +kernel
theorem dX5_twos_25 : decode cX5_twos 25 = .ok (.iload_n 3, 1) := by decide +kernel
theorem dX5_twos_26 : decode cX5_twos 26 = .ok (.ifCond .lt 12, 3) := by decide +kernel
theorem dX5_twos_29 : decode cX5_twos 29 = .ok (.iload_n 3, 1) := by decide +kernel
theorem dX5_twos_30 : decode cX5_twos 30 = .ok (.iconst 2, 1) := by decide +kernel
theorem dX5_twos_31 : decode cX5_twos 31 = .ok (.if_icmp .gt 7, 3) := by decide +kernel
theorem dX5_twos_34 : decode cX5_twos 34 = .ok (.iconst 1, 1) := by decide +kernel
theorem dX5_twos_35 : decode cX5_twos 35 = .ok (.goto 4, 3) := by decide +kernel
theorem dX5_twos_38 : decode cX5_twos 38 = .ok (.iconst 0, 1) := by decide +kernel
theorem dX5_twos_39 : decode cX5_twos 39 = .ok (.invokestatic 42, 3) := by decide +kernel
theorem dX5_twos_42 : decode cX5_twos 42 = .ok (.iload_n 3, 1) := by decide +kernel
theorem dX5_twos_43 : decode cX5_twos 43 = .ok (.ifCond .ne 20, 3) := by decide +kernel
theorem dX5_twos_46 : decode cX5_twos 46 = .ok (.iload_n 2, 1) := by decide +kernel
theorem dX5_twos_47 : decode cX5_twos 47 = .ok (.aload 4, 2) := by decide +kernel
theorem dX5_twos_49 : decode cX5_twos 49 = .ok (.aload_n 0, 1) := by decide +kernel
theorem dX5_twos_50 : decode cX5_twos 50 = .ok (.getfield 29, 3) := by decide +kernel
theorem dX5_twos_53 : decode cX5_twos 53 = .ok (.aload_n 0, 1) := by decide +kernel
theorem dX5_twos_54 : decode cX5_twos 54 = .ok (.getfield 24, 3) := by decide +kernel
theorem dX5_twos_57 : decode cX5_twos 57 = .ok (.invokestatic 154, 3) := by decide +kernel
theorem dX5_twos_60 : decode cX5_twos 60 = .ok (.goto 23, 3) := by decide +kernel
theorem dX5_twos_63 : decode cX5_twos 63 = .ok (.iload_n 3, 1) := by decide +kernel
theorem dX5_twos_64 : decode cX5_twos 64 = .ok (.iconst 1, 1) := by decide +kernel
theorem dX5_twos_65 : decode cX5_twos 65 = .ok (.if_icmp .ne 12, 3) := by decide +kernel
theorem dX5_twos_68 : decode cX5_twos 68 = .ok (.iload_n 2, 1) := by decide +kernel
theorem dX5_twos_69 : decode cX5_twos 69 = .ok (.aload 4, 2) := by decide +kernel
theorem dX5_twos_71 : decode cX5_twos 71 = .ok (.invokestatic 160, 3) := by decide +kernel
theorem dX5_twos_74 : decode cX5_twos 74 = .ok (.goto 9, 3) := by decide +kernel
theorem dX5_twos_77 : decode cX5_twos 77 = .ok (.iload_n 2, 1) := by decide +kernel
theorem dX5_twos_78 : decode cX5_twos 78 = .ok (.aload 4, 2) := by decide +kernel
theorem dX5_twos_80 : decode cX5_twos 80 = .ok (.invokestatic 164, 3) := by decide +kernel
theorem dX5_twos_83 : decode cX5_twos 83 = .ok (.aload_n 0, 1) := by decide +kernel
theorem dX5_twos_84 : decode cX5_twos 84 = .ok (.aload 4, 2) := by decide +kernel
theorem dX5_twos_86 : decode cX5_twos 86 = .ok (.getfield 50, 3) := by decide +kernel
theorem dX5_twos_89 : decode cX5_twos 89 = .ok (.invokevirtual 54, 3) := by decide +kernel
theorem dX5_twos_92 : decode cX5_twos 92 = .ok (.ireturn, 1) := by decide +kernel
theorem dX5_line_0 : decode cX5_line 0 = .ok (.aload_n 0, 1) := by decide +kernel
theorem dX5_line_1 : decode cX5_line 1 = .ok (.iload_n 1, 1) := by decide +kernel
theorem dX5_line_2 : decode cX5_line 2 = .ok (.invokevirtual 37, 3) := by decide +kernel
theorem dX5_line_5 : decode cX5_line 5 = .ok (.astore 5, 2) := by decide +kernel
theorem dX5_line_7 : decode cX5_line 7 = .ok (.iload_n 2, 1) := by decide +kernel
theorem dX5_line_8 : decode cX5_line 8 = .ok (.iconst 1, 1) := by decide +kernel
theorem dX5_line_9 : decode cX5_line 9 = .ok (.if_icmp .lt 13, 3) := by decide +kernel
theorem dX5_line_12 : decode cX5_line 12 = .ok (.iload_n 2, 1) := by decide +kernel
theorem dX5_line_13 : decode cX5_line 13 = .ok (.bipush 64, 2) := by decide +kernel
theorem dX5_line_15 : decode cX5_line 15 = .ok (.if_icmp .gt 7, 3) := by decide +kernel
theorem dX5_line_18 : decode cX5_line 18 = .ok (.iconst 1, 1) := by decide +kernel
theorem dX5_line_19 : decode cX5_line 19 = .ok (.goto 4, 3) := by decide +kernel
theorem dX5_line_22 : decode cX5_line 22 = .ok (.iconst 0, 1) := by decide +kernel
theorem dX5_line_23 : decode cX5_line 23 = .ok (.invokestatic 42, 3) := by decide +kernel
theorem dX5_line_26 : decode cX5_line 26 = .ok (.iload_n 3, 1) := by decide +kernel
theorem dX5_line_27 : decode cX5_line 27 = .ok (.ifCond .lt 12, 3) := by decide +kernel
theorem dX5_line_30 : decode cX5_line 30 = .ok (.iload_n 3, 1) := by decide +kernel
theorem dX5_line_31 : decode cX5_line 31 = .ok (.iload_n 2, 1) := by decide +kernel
theorem dX5_line_32 : decode cX5_line 32 = .ok (.if_icmp .gt 7, 3) := by decide +kernel
theorem dX5_line_35 : decode cX5_line 35 = .ok (.iconst 1, 1) := by decide +kernel
theorem dX5_line_36 : decode cX5_line 36 = .ok (.goto 4, 3) := by decide +kernel
theorem dX5_line_39 : decode cX5_line 39 = .ok (.iconst 0, 1) := by decide +kernel
theorem dX5_line_40 : decode cX5_line 40 = .ok (.invokestatic 42, 3) := by decide +kernel
theorem dX5_line_43 : decode cX5_line 43 = .ok (.iload 4, 2) := by decide +kernel
theorem dX5_line_45 : decode cX5_line 45 = .ok (.ifCond .lt 13, 3) := by decide +kernel
theorem dX5_line_48 : decode cX5_line 48 = .ok (.iload 4, 2) := by decide +kernel
theorem dX5_line_50 : decode cX5_line 50 = .ok (.iload_n 2, 1) := by decide +kernel
theorem dX5_line_51 : decode cX5_line 51 = .ok (.if_icmp .ge 7, 3) := by decide +kernel
theorem dX5_line_54 : decode cX5_line 54 = .ok (.iconst 1, 1) := by decide +kernel
theorem dX5_line_55 : decode cX5_line 55 = .ok (.goto 4, 3) := by decide +kernel
theorem dX5_line_58 : decode cX5_line 58 = .ok (.iconst 0, 1) := by decide +kernel
theorem dX5_line_59 : decode cX5_line 59 = .ok (.invokestatic 42, 3) := by decide +kernel
theorem dX5_line_62 : decode cX5_line 62 = .ok (.aload_n 0, 1) := by decide +kernel
theorem dX5_line_63 : decode cX5_line 63 = .ok (.getfield 29, 3) := by decide +kernel
theorem dX5_line_66 : decode cX5_line 66 = .ok (.invokevirtual 65, 3) := by decide +kernel
theorem dX5_line_69 : decode cX5_line 69 = .ok (.iconst 0, 1) := by decide +kernel
theorem dX5_line_70 : decode cX5_line 70 = .ok (.istore 6, 2) := by decide +kernel
theorem dX5_line_72 : decode cX5_line 72 = .ok (.iload 6, 2) := by decide +kernel
theorem dX5_line_74 : decode cX5_line 74 = .ok (.iload_n 2, 1) := by decide +kernel
theorem dX5_line_75 : decode cX5_line 75 = .ok (.if_icmp .ge 25, 3) := by decide +kernel
theorem dX5_line_78 : decode cX5_line 78 = .ok (.aload_n 0, 1) := by decide +kernel
theorem dX5_line_79 : decode cX5_line 79 = .ok (.getfield 29, 3) := by decide +kernel
theorem dX5_line_82 : decode cX5_line 82 = .ok (.iload_n 2, 1) := by decide +kernel
theorem dX5_line_83 : decode cX5_line 83 = .ok (.iload_n 3, 1) := by decide +kernel
theorem dX5_line_84 : decode cX5_line 84 = .ok (.iload 4, 2) := by decide +kernel
theorem dX5_line_86 : decode cX5_line 86 = .ok (.iload 6, 2) := by decide +kernel
theorem dX5_line_88 : decode cX5_line 88 = .ok (.invokestatic 167, 3) := by decide +kernel
theorem dX5_line_91 : decode cX5_line 91 = .ok (.invokevirtual 68, 3) := by decide +kernel
theorem dX5_line_94 : decode cX5_line 94 = .ok (.iinc 6 1, 3) := by decide +kernel
theorem dX5_line_97 : decode cX5_line 97 = .ok (.goto (-25), 3) := by decide +kernel
theorem dX5_line_100 : decode cX5_line 100 = .ok (.aload_n 0, 1) := by decide +kernel
theorem dX5_line_101 : decode cX5_line 101 = .ok (.aload 5, 2) := by decide +kernel
theorem dX5_line_103 : decode cX5_line 103 = .ok (.aload_n 0, 1) := by decide +kernel
theorem dX5_line_104 : decode cX5_line 104 = .ok (.getfield 29, 3) := by decide +kernel
theorem dX5_line_107 : decode cX5_line 107 = .ok (.invokevirtual 104, 3) := by decide +kernel
theorem dX5_line_110 : decode cX5_line 110 = .ok (.ireturn, 1) := by decide +kernel
theorem dX5_grow_0 : decode cX5_grow 0 = .ok (.aload_n 0, 1) := by decide +kernel
theorem dX5_grow_1 : decode cX5_grow 1 = .ok (.iload_n 1, 1) := by decide +kernel
theorem dX5_grow_2 : decode cX5_grow 2 = .ok (.invokevirtual 140, 3) := by decide +kernel
theorem dX5_grow_5 : decode cX5_grow 5 = .ok (.astore_n 3, 1) := by decide +kernel
theorem dX5_grow_6 : decode cX5_grow 6 = .ok (.iload_n 2, 1) := by decide +kernel
theorem dX5_grow_7 : decode cX5_grow 7 = .ok (.iconst 1, 1) := by decide +kernel
theorem dX5_grow_8 : decode cX5_grow 8 = .ok (.if_icmp .lt 12, 3) := by decide +kernel
theorem dX5_grow_11 : decode cX5_grow 11 = .ok (.iload_n 2, 1) := by decide +kernel
theorem dX5_grow_12 : decode cX5_grow 12 = .ok (.iconst 3, 1) := by decide +kernel
theorem dX5_grow_13 : decode cX5_grow 13 = .ok (.if_icmp .gt 7, 3) := by decide +kernel
theorem dX5_grow_16 : decode cX5_grow 16 = .ok (.iconst 1, 1) := by decide +kernel
theorem dX5_grow_17 : decode cX5_grow 17 = .ok (.goto 4, 3) := by decide +kernel
theorem dX5_grow_20 : decode cX5_grow 20 = .ok (.iconst 0, 1) := by decide +kernel
theorem dX5_grow_21 : decode cX5_grow 21 = .ok (.invokestatic 42, 3) := by decide +kernel
theorem dX5_grow_24 : decode cX5_grow 24 = .ok (.aload_n 3, 1) := by decide +kernel
theorem dX5_grow_25 : decode cX5_grow 25 = .ok (.iload_n 2, 1) := by decide +kernel
theorem dX5_grow_26 : decode cX5_grow 26 = .ok (.aload_n 0, 1) := by decide +kernel
theorem dX5_grow_27 : decode cX5_grow 27 = .ok (.getfield 29, 3) := by decide +kernel
theorem dX5_grow_30 : decode cX5_grow 30 = .ok (.invokevirtual 171, 3) := by decide +kernel
theorem dX5_grow_33 : decode cX5_grow 33 = .ok (.ifCond .ne 8, 3) := by decide +kernel
theorem dX5_grow_36 : decode cX5_grow 36 = .ok (.aload_n 0, 1) := by decide +kernel
theorem dX5_grow_37 : decode cX5_grow 37 = .ok (.invokevirtual 121, 3) := by decide +kernel
theorem dX5_grow_40 : decode cX5_grow 40 = .ok (.ireturn, 1) := by decide +kernel
theorem dX5_grow_41 : decode cX5_grow 41 = .ok (.aload_n 0, 1) := by decide +kernel
theorem dX5_grow_42 : decode cX5_grow 42 = .ok (.aload_n 3, 1) := by decide +kernel
theorem dX5_grow_43 : decode cX5_grow 43 = .ok (.getfield 144, 3) := by decide +kernel
theorem dX5_grow_46 : decode cX5_grow 46 = .ok (.getfield 50, 3) := by decide +kernel
theorem dX5_grow_49 : decode cX5_grow 49 = .ok (.invokevirtual 175, 3) := by decide +kernel
theorem dX5_grow_52 : decode cX5_grow 52 = .ok (.ireturn, 1) := by decide +kernel
theorem dX5_shrink_0 : decode cX5_shrink 0 = .ok (.aload_n 0, 1) := by decide +kernel
theorem dX5_shrink_1 : decode cX5_shrink 1 = .ok (.iload_n 1, 1) := by decide +kernel
theorem dX5_shrink_2 : decode cX5_shrink 2 = .ok (.invokevirtual 140, 3) := by decide +kernel
theorem dX5_shrink_5 : decode cX5_shrink 5 = .ok (.astore_n 2, 1) := by decide +kernel
theorem dX5_shrink_6 : decode cX5_shrink 6 = .ok (.aload_n 2, 1) := by decide +kernel
theorem dX5_shrink_7 : decode cX5_shrink 7 = .ok (.getfield 178, 3) := by decide +kernel
theorem dX5_shrink_10 : decode cX5_shrink 10 = .ok (.ifCond .le 7, 3) := by decide +kernel
theorem dX5_shrink_13 : decode cX5_shrink 13 = .ok (.iconst 1, 1) := by decide +kernel
theorem dX5_shrink_14 : decode cX5_shrink 14 = .ok (.goto 4, 3) := by decide +kernel
theorem dX5_shrink_17 : decode cX5_shrink 17 = .ok (.iconst 0, 1) := by decide +kernel
theorem dX5_shrink_18 : decode cX5_shrink 18 = .ok (.invokestatic 133, 3) := by decide +kernel
theorem dX5_shrink_21 : decode cX5_shrink 21 = .ok (.aload_n 0, 1) := by decide +kernel
theorem dX5_shrink_22 : decode cX5_shrink 22 = .ok (.aload_n 2, 1) := by decide +kernel
theorem dX5_shrink_23 : decode cX5_shrink 23 = .ok (.aload_n 0, 1) := by decide +kernel
theorem dX5_shrink_24 : decode cX5_shrink 24 = .ok (.getfield 29, 3) := by decide +kernel
theorem dX5_shrink_27 : decode cX5_shrink 27 = .ok (.invokevirtual 181, 3) := by decide +kernel
theorem dX5_shrink_30 : decode cX5_shrink 30 = .ok (.invokevirtual 175, 3) := by decide +kernel
theorem dX5_shrink_33 : decode cX5_shrink 33 = .ok (.ireturn, 1) := by decide +kernel
theorem dX5_fresh_0 : decode cX5_fresh 0 = .ok (.aload_n 0, 1) := by decide +kernel
theorem dX5_fresh_1 : decode cX5_fresh 1 = .ok (.iload_n 1, 1) := by decide +kernel
theorem dX5_fresh_2 : decode cX5_fresh 2 = .ok (.invokevirtual 140, 3) := by decide +kernel
theorem dX5_fresh_5 : decode cX5_fresh 5 = .ok (.astore_n 2, 1) := by decide +kernel
theorem dX5_fresh_6 : decode cX5_fresh 6 = .ok (.aload_n 2, 1) := by decide +kernel
theorem dX5_fresh_7 : decode cX5_fresh 7 = .ok (.getfield 178, 3) := by decide +kernel
theorem dX5_fresh_10 : decode cX5_fresh 10 = .ok (.istore_n 3, 1) := by decide +kernel
theorem dX5_fresh_11 : decode cX5_fresh 11 = .ok (.aload_n 2, 1) := by decide +kernel
theorem dX5_fresh_12 : decode cX5_fresh 12 = .ok (.invokevirtual 184, 3) := by decide +kernel
theorem dX5_fresh_15 : decode cX5_fresh 15 = .ok (.aload_n 0, 1) := by decide +kernel
theorem dX5_fresh_16 : decode cX5_fresh 16 = .ok (.iload_n 3, 1) := by decide +kernel
theorem dX5_fresh_17 : decode cX5_fresh 17 = .ok (.invokevirtual 175, 3) := by decide +kernel
theorem dX5_fresh_20 : decode cX5_fresh 20 = .ok (.ireturn, 1) := by decide +kernel
theorem dX5_length_0 : decode cX5_length 0 = .ok (.aload_n 0, 1) := by decide +kernel
theorem dX5_length_1 : decode cX5_length 1 = .ok (.iload_n 1, 1) := by decide +kernel
theorem dX5_length_2 : decode cX5_length 2 = .ok (.invokevirtual 37, 3) := by decide +kernel
theorem dX5_length_5 : decode cX5_length 5 = .ok (.getfield 50, 3) := by decide +kernel
theorem dX5_length_8 : decode cX5_length 8 = .ok (.ireturn, 1) := by decide +kernel
theorem dX5_isB_0 : decode cX5_isB 0 = .ok (.aload_n 0, 1) := by decide +kernel
theorem dX5_isB_1 : decode cX5_isB 1 = .ok (.iload_n 1, 1) := by decide +kernel
theorem dX5_isB_2 : decode cX5_isB 2 = .ok (.invokevirtual 37, 3) := by decide +kernel
theorem dX5_isB_5 : decode cX5_isB 5 = .ok (.astore_n 3, 1) := by decide +kernel
theorem dX5_isB_6 : decode cX5_isB 6 = .ok (.iload_n 2, 1) := by decide +kernel
theorem dX5_isB_7 : decode cX5_isB 7 = .ok (.ifCond .lt 15, 3) := by decide +kernel
theorem dX5_isB_10 : decode cX5_isB 10 = .ok (.iload_n 2, 1) := by decide +kernel
theorem dX5_isB_11 : decode cX5_isB 11 = .ok (.aload_n 3, 1) := by decide +kernel
theorem dX5_isB_12 : decode cX5_isB 12 = .ok (.getfield 50, 3) := by decide +kernel
theorem dX5_isB_15 : decode cX5_isB 15 = .ok (.if_icmp .ge 7, 3) := by decide +kernel
theorem dX5_isB_18 : decode cX5_isB 18 = .ok (.iconst 1, 1) := by decide +kernel
theorem dX5_isB_19 : decode cX5_isB 19 = .ok (.goto 4, 3) := by decide +kernel
theorem dX5_isB_22 : decode cX5_isB 22 = .ok (.iconst 0, 1) := by decide +kernel
theorem dX5_isB_23 : decode cX5_isB 23 = .ok (.invokestatic 62, 3) := by decide +kernel
theorem dX5_isB_26 : decode cX5_isB 26 = .ok (.aload_n 3, 1) := by decide +kernel
theorem dX5_isB_27 : decode cX5_isB 27 = .ok (.iload_n 2, 1) := by decide +kernel
theorem dX5_isB_28 : decode cX5_isB 28 = .ok (.invokevirtual 71, 3) := by decide +kernel
theorem dX5_isB_31 : decode cX5_isB 31 = .ok (.ireturn, 1) := by decide +kernel
theorem dX5_text_0 : decode cX5_text 0 = .ok (.aload_n 0, 1) := by decide +kernel
theorem dX5_text_1 : decode cX5_text 1 = .ok (.iload_n 1, 1) := by decide +kernel
theorem dX5_text_2 : decode cX5_text 2 = .ok (.invokevirtual 37, 3) := by decide +kernel
theorem dX5_text_5 : decode cX5_text 5 = .ok (.invokestatic 187, 3) := by decide +kernel
theorem dX5_text_8 : decode cX5_text 8 = .ok (.areturn, 1) := by decide +kernel
theorem dX5_count_0 : decode cX5_count 0 = .ok (.aload_n 0, 1) := by decide +kernel
theorem dX5_count_1 : decode cX5_count 1 = .ok (.iload_n 1, 1) := by decide +kernel
theorem dX5_count_2 : decode cX5_count 2 = .ok (.invokevirtual 37, 3) := by decide +kernel
theorem dX5_count_5 : decode cX5_count 5 = .ok (.astore_n 3, 1) := by decide +kernel
theorem dX5_count_6 : decode cX5_count 6 = .ok (.aload_n 3, 1) := by decide +kernel
theorem dX5_count_7 : decode cX5_count 7 = .ok (.invokestatic 108, 3) := by decide +kernel
theorem dX5_count_10 : decode cX5_count 10 = .ok (.istore 4, 2) := by decide +kernel
theorem dX5_count_12 : decode cX5_count 12 = .ok (.iload_n 2, 1) := by decide +kernel
theorem dX5_count_13 : decode cX5_count 13 = .ok (.ifCond .eq 8, 3) := by decide +kernel
theorem dX5_count_16 : decode cX5_count 16 = .ok (.iload 4, 2) := by decide +kernel
theorem dX5_count_18 : decode cX5_count 18 = .ok (.goto 10, 3) := by decide +kernel
theorem dX5_count_21 : decode cX5_count 21 = .ok (.aload_n 3, 1) := by decide +kernel
theorem dX5_count_22 : decode cX5_count 22 = .ok (.getfield 50, 3) := by decide +kernel
theorem dX5_count_25 : decode cX5_count 25 = .ok (.iload 4, 2) := by decide +kernel
theorem dX5_count_27 : decode cX5_count 27 = .ok (.isub, 1) := by decide +kernel
theorem dX5_count_28 : decode cX5_count 28 = .ok (.ireturn, 1) := by decide +kernel
theorem dX5_find_0 : decode cX5_find 0 = .ok (.aload_n 0, 1) := by decide +kernel
theorem dX5_find_1 : decode cX5_find 1 = .ok (.iload_n 1, 1) := by decide +kernel
theorem dX5_find_2 : decode cX5_find 2 = .ok (.invokevirtual 37, 3) := by decide +kernel
theorem dX5_find_5 : decode cX5_find 5 = .ok (.astore 4, 2) := by decide +kernel
theorem dX5_find_7 : decode cX5_find 7 = .ok (.aload_n 0, 1) := by decide +kernel
theorem dX5_find_8 : decode cX5_find 8 = .ok (.iload_n 2, 1) := by decide +kernel
theorem dX5_find_9 : decode cX5_find 9 = .ok (.invokevirtual 37, 3) := by decide +kernel
theorem dX5_find_12 : decode cX5_find 12 = .ok (.astore 5, 2) := by decide +kernel
theorem dX5_find_14 : decode cX5_find 14 = .ok (.iload_n 3, 1) := by decide +kernel
theorem dX5_find_15 : decode cX5_find 15 = .ok (.ifCond .lt 16, 3) := by decide +kernel
theorem dX5_find_18 : decode cX5_find 18 = .ok (.iload_n 3, 1) := by decide +kernel
theorem dX5_find_19 : decode cX5_find 19 = .ok (.aload 4, 2) := by decide +kernel
theorem dX5_find_21 : decode cX5_find 21 = .ok (.getfield 50, 3) := by decide +kernel
theorem dX5_find_24 : decode cX5_find 24 = .ok (.if_icmp .gt 7, 3) := by decide +kernel
theorem dX5_find_27 : decode cX5_find 27 = .ok (.iconst 1, 1) := by decide +kernel
theorem dX5_find_28 : decode cX5_find 28 = .ok (.goto 4, 3) := by decide +kernel
theorem dX5_find_31 : decode cX5_find 31 = .ok (.iconst 0, 1) := by decide +kernel
theorem dX5_find_32 : decode cX5_find 32 = .ok (.invokestatic 62, 3) := by decide +kernel
theorem dX5_find_35 : decode cX5_find 35 = .ok (.iload_n 3, 1) := by decide +kernel
theorem dX5_find_36 : decode cX5_find 36 = .ok (.istore 6, 2) := by decide +kernel
theorem dX5_find_38 : decode cX5_find 38 = .ok (.iload 6, 2) := by decide +kernel
theorem dX5_find_40 : decode cX5_find 40 = .ok (.aload 4, 2) := by decide +kernel
theorem dX5_find_42 : decode cX5_find 42 = .ok (.getfield 50, 3) := by decide +kernel
theorem dX5_find_45 : decode cX5_find 45 = .ok (.if_icmp .gt 24, 3) := by decide +kernel
theorem dX5_find_48 : decode cX5_find 48 = .ok (.aload 4, 2) := by decide +kernel
theorem dX5_find_50 : decode cX5_find 50 = .ok (.iload 6, 2) := by decide +kernel
theorem dX5_find_52 : decode cX5_find 52 = .ok (.aload 5, 2) := by decide +kernel
theorem dX5_find_54 : decode cX5_find 54 = .ok (.invokestatic 191, 3) := by decide +kernel
theorem dX5_find_57 : decode cX5_find 57 = .ok (.ifCond .eq 6, 3) := by decide +kernel
theorem dX5_find_60 : decode cX5_find 60 = .ok (.iload 6, 2) := by decide +kernel
