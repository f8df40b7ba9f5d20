theorem dX5_find_62 : decode cX5_find 62 = .ok (.ireturn, 1) := by decide +kernel
theorem dX5_find_63 : decode cX5_find 63 = .ok (.iinc 6 1, 3) := by decide +kernel
theorem dX5_find_66 : decode cX5_find 66 = .ok (.goto (-28), 3) := by decide +kernel
theorem dX5_find_69 : decode cX5_find 69 = .ok (.iconst (-1), 1) := by decide +kernel
theorem dX5_find_70 : decode cX5_find 70 = .ok (.ireturn, 1) := by decide +kernel
theorem dX5_findLast_0 : decode cX5_findLast 0 = .ok (.aload_n 0, 1) := by decide +kernel
theorem dX5_findLast_1 : decode cX5_findLast 1 = .ok (.iload_n 1, 1) := by decide +kernel
theorem dX5_findLast_2 : decode cX5_findLast 2 = .ok (.invokevirtual 37, 3) := by decide +kernel
theorem dX5_findLast_5 : decode cX5_findLast 5 = .ok (.astore 4, 2) := by decide +kernel
theorem dX5_findLast_7 : decode cX5_findLast 7 = .ok (.aload_n 0, 1) := by decide +kernel
theorem dX5_findLast_8 : decode cX5_findLast 8 = .ok (.iload_n 2, 1) := by decide +kernel
theorem dX5_findLast_9 : decode cX5_findLast 9 = .ok (.invokevirtual 37, 3) := by decide +kernel
theorem dX5_findLast_12 : decode cX5_findLast 12 = .ok (.astore 5, 2) := by decide +kernel
theorem dX5_findLast_14 : decode cX5_findLast 14 = .ok (.iload_n 3, 1) := by decide +kernel
theorem dX5_findLast_15 : decode cX5_findLast 15 = .ok (.ifCond .lt 16, 3) := by decide +kernel
theorem dX5_findLast_18 : decode cX5_findLast 18 = .ok (.iload_n 3, 1) := by decide +kernel
theorem dX5_findLast_19 : decode cX5_findLast 19 = .ok (.aload 4, 2) := by decide +kernel
theorem dX5_findLast_21 : decode cX5_findLast 21 = .ok (.getfield 50, 3) := by decide +kernel
theorem dX5_findLast_24 : decode cX5_findLast 24 = .ok (.if_icmp .gt 7, 3) := by decide +kernel
theorem dX5_findLast_27 : decode cX5_findLast 27 = .ok (.iconst 1, 1) := by decide +kernel
theorem dX5_findLast_28 : decode cX5_findLast 28 = .ok (.goto 4, 3) := by decide +kernel
theorem dX5_findLast_31 : decode cX5_findLast 31 = .ok (.iconst 0, 1) := by decide +kernel
theorem dX5_findLast_32 : decode cX5_findLast 32 = .ok (.invokestatic 62, 3) := by decide +kernel
theorem dX5_findLast_35 : decode cX5_findLast 35 = .ok (.iload_n 3, 1) := by decide +kernel
theorem dX5_findLast_36 : decode cX5_findLast 36 = .ok (.istore 6, 2) := by decide +kernel
theorem dX5_findLast_38 : decode cX5_findLast 38 = .ok (.iload 6, 2) := by decide +kernel
theorem dX5_findLast_40 : decode cX5_findLast 40 = .ok (.ifCond .lt 24, 3) := by decide +kernel
theorem dX5_findLast_43 : decode cX5_findLast 43 = .ok (.aload 4, 2) := by decide +kernel
theorem dX5_findLast_45 : decode cX5_findLast 45 = .ok (.iload 6, 2) := by decide +kernel
theorem dX5_findLast_47 : decode cX5_findLast 47 = .ok (.aload 5, 2) := by decide +kernel
theorem dX5_findLast_49 : decode cX5_findLast 49 = .ok (.invokestatic 191, 3) := by decide +kernel
theorem dX5_findLast_52 : decode cX5_findLast 52 = .ok (.ifCond .eq 6, 3) := by decide +kernel
theorem dX5_findLast_55 : decode cX5_findLast 55 = .ok (.iload 6, 2) := by decide +kernel
theorem dX5_findLast_57 : decode cX5_findLast 57 = .ok (.ireturn, 1) := by decide +kernel
theorem dX5_findLast_58 : decode cX5_findLast 58 = .ok (.iinc 6 (-1), 3) := by decide +kernel
theorem dX5_findLast_61 : decode cX5_findLast 61 = .ok (.goto (-23), 3) := by decide +kernel
theorem dX5_findLast_64 : decode cX5_findLast 64 = .ok (.iconst (-1), 1) := by decide +kernel
theorem dX5_findLast_65 : decode cX5_findLast 65 = .ok (.ireturn, 1) := by decide +kernel
theorem dX5_order_0 : decode cX5_order 0 = .ok (.aload_n 0, 1) := by decide +kernel
theorem dX5_order_1 : decode cX5_order 1 = .ok (.iload_n 1, 1) := by decide +kernel
theorem dX5_order_2 : decode cX5_order 2 = .ok (.invokevirtual 37, 3) := by decide +kernel
theorem dX5_order_5 : decode cX5_order 5 = .ok (.aload_n 0, 1) := by decide +kernel
theorem dX5_order_6 : decode cX5_order 6 = .ok (.iload_n 2, 1) := by decide +kernel
theorem dX5_order_7 : decode cX5_order 7 = .ok (.invokevirtual 37, 3) := by decide +kernel
theorem dX5_order_10 : decode cX5_order 10 = .ok (.invokestatic 195, 3) := by decide +kernel
theorem dX5_order_13 : decode cX5_order 13 = .ok (.ireturn, 1) := by decide +kernel
theorem dX5_isMirrored_0 : decode cX5_isMirrored 0 = .ok (.aload_n 0, 1) := by decide +kernel
theorem dX5_isMirrored_1 : decode cX5_isMirrored 1 = .ok (.iload_n 1, 1) := by decide +kernel
theorem dX5_isMirrored_2 : decode cX5_isMirrored 2 = .ok (.invokevirtual 37, 3) := by decide +kernel
theorem dX5_isMirrored_5 : decode cX5_isMirrored 5 = .ok (.astore_n 2, 1) := by decide +kernel
theorem dX5_isMirrored_6 : decode cX5_isMirrored 6 = .ok (.aload_n 2, 1) := by decide +kernel
theorem dX5_isMirrored_7 : decode cX5_isMirrored 7 = .ok (.iconst 0, 1) := by decide +kernel
theorem dX5_isMirrored_8 : decode cX5_isMirrored 8 = .ok (.aload_n 2, 1) := by decide +kernel
theorem dX5_isMirrored_9 : decode cX5_isMirrored 9 = .ok (.getfield 50, 3) := by decide +kernel
theorem dX5_isMirrored_12 : decode cX5_isMirrored 12 = .ok (.invokestatic 198, 3) := by decide +kernel
theorem dX5_isMirrored_15 : decode cX5_isMirrored 15 = .ok (.ireturn, 1) := by decide +kernel
theorem dX5_spread_0 : decode cX5_spread 0 = .ok (.aload_n 0, 1) := by decide +kernel
theorem dX5_spread_1 : decode cX5_spread 1 = .ok (.iload_n 1, 1) := by decide +kernel
theorem dX5_spread_2 : decode cX5_spread 2 = .ok (.invokevirtual 37, 3) := by decide +kernel
theorem dX5_spread_5 : decode cX5_spread 5 = .ok (.astore 4, 2) := by decide +kernel
theorem dX5_spread_7 : decode cX5_spread 7 = .ok (.iload_n 2, 1) := by decide +kernel
theorem dX5_spread_8 : decode cX5_spread 8 = .ok (.ifCond .lt 16, 3) := by decide +kernel
theorem dX5_spread_11 : decode cX5_spread 11 = .ok (.iload_n 2, 1) := by decide +kernel
theorem dX5_spread_12 : decode cX5_spread 12 = .ok (.aload 4, 2) := by decide +kernel
theorem dX5_spread_14 : decode cX5_spread 14 = .ok (.getfield 50, 3) := by decide +kernel
theorem dX5_spread_17 : decode cX5_spread 17 = .ok (.if_icmp .gt 7, 3) := by decide +kernel
theorem dX5_spread_20 : decode cX5_spread 20 = .ok (.iconst 1, 1) := by decide +kernel
theorem dX5_spread_21 : decode cX5_spread 21 = .ok (.goto 4, 3) := by decide +kernel
theorem dX5_spread_24 : decode cX5_spread 24 = .ok (.iconst 0, 1) := by decide +kernel
theorem dX5_spread_25 : decode cX5_spread 25 = .ok (.invokestatic 42, 3) := by decide +kernel
theorem dX5_spread_28 : decode cX5_spread 28 = .ok (.aload 4, 2) := by decide +kernel
theorem dX5_spread_30 : decode cX5_spread 30 = .ok (.iload_n 2, 1) := by decide +kernel
theorem dX5_spread_31 : decode cX5_spread 31 = .ok (.iload_n 3, 1) := by decide +kernel
theorem dX5_spread_32 : decode cX5_spread 32 = .ok (.invokestatic 202, 3) := by decide +kernel
theorem dX5_spread_35 : decode cX5_spread 35 = .ok (.ireturn, 1) := by decide +kernel
theorem dX5_kinds_0 : decode cX5_kinds 0 = .ok (.aload_n 0, 1) := by decide +kernel
theorem dX5_kinds_1 : decode cX5_kinds 1 = .ok (.iload_n 1, 1) := by decide +kernel
theorem dX5_kinds_2 : decode cX5_kinds 2 = .ok (.invokevirtual 37, 3) := by decide +kernel
theorem dX5_kinds_5 : decode cX5_kinds 5 = .ok (.astore 4, 2) := by decide +kernel
theorem dX5_kinds_7 : decode cX5_kinds 7 = .ok (.iload_n 2, 1) := by decide +kernel
theorem dX5_kinds_8 : decode cX5_kinds 8 = .ok (.ifCond .lt 16, 3) := by decide +kernel
theorem dX5_kinds_11 : decode cX5_kinds 11 = .ok (.iload_n 2, 1) := by decide +kernel
theorem dX5_kinds_12 : decode cX5_kinds 12 = .ok (.aload 4, 2) := by decide +kernel
theorem dX5_kinds_14 : decode cX5_kinds 14 = .ok (.getfield 50, 3) := by decide +kernel
theorem dX5_kinds_17 : decode cX5_kinds 17 = .ok (.if_icmp .gt 7, 3) := by decide +kernel
theorem dX5_kinds_20 : decode cX5_kinds 20 = .ok (.iconst 1, 1) := by decide +kernel
theorem dX5_kinds_21 : decode cX5_kinds 21 = .ok (.goto 4, 3) := by decide +kernel
theorem dX5_kinds_24 : decode cX5_kinds 24 = .ok (.iconst 0, 1) := by decide +kernel
theorem dX5_kinds_25 : decode cX5_kinds 25 = .ok (.invokestatic 42, 3) := by decide +kernel
theorem dX5_kinds_28 : decode cX5_kinds 28 = .ok (.aload 4, 2) := by decide +kernel
theorem dX5_kinds_30 : decode cX5_kinds 30 = .ok (.iload_n 2, 1) := by decide +kernel
theorem dX5_kinds_31 : decode cX5_kinds 31 = .ok (.iload_n 3, 1) := by decide +kernel
theorem dX5_kinds_32 : decode cX5_kinds 32 = .ok (.invokestatic 206, 3) := by decide +kernel
theorem dX5_kinds_35 : decode cX5_kinds 35 = .ok (.ireturn, 1) := by decide +kernel
theorem dX5_times_0 : decode cX5_times 0 = .ok (.aload_n 0, 1) := by decide +kernel
theorem dX5_times_1 : decode cX5_times 1 = .ok (.iload_n 1, 1) := by decide +kernel
theorem dX5_times_2 : decode cX5_times 2 = .ok (.invokevirtual 37, 3) := by decide +kernel
theorem dX5_times_5 : decode cX5_times 5 = .ok (.invokestatic 209, 3) := by decide +kernel
theorem dX5_times_8 : decode cX5_times 8 = .ok (.ireturn, 1) := by decide +kernel
theorem dX5_overlaps_0 : decode cX5_overlaps 0 = .ok (.aload_n 0, 1) := by decide +kernel
theorem dX5_overlaps_1 : decode cX5_overlaps 1 = .ok (.iload_n 1, 1) := by decide +kernel
theorem dX5_overlaps_2 : decode cX5_overlaps 2 = .ok (.invokevirtual 37, 3) := by decide +kernel
theorem dX5_overlaps_5 : decode cX5_overlaps 5 = .ok (.invokestatic 212, 3) := by decide +kernel
theorem dX5_overlaps_8 : decode cX5_overlaps 8 = .ok (.ireturn, 1) := by decide +kernel
theorem dX5_mirrors_0 : decode cX5_mirrors 0 = .ok (.aload_n 0, 1) := by decide +kernel
theorem dX5_mirrors_1 : decode cX5_mirrors 1 = .ok (.iload_n 1, 1) := by decide +kernel
theorem dX5_mirrors_2 : decode cX5_mirrors 2 = .ok (.invokevirtual 37, 3) := by decide +kernel
theorem dX5_mirrors_5 : decode cX5_mirrors 5 = .ok (.invokestatic 215, 3) := by decide +kernel
theorem dX5_mirrors_8 : decode cX5_mirrors 8 = .ok (.ireturn, 1) := by decide +kernel
theorem dX5_folds_0 : decode cX5_folds 0 = .ok (.aload_n 0, 1) := by decide +kernel
theorem dX5_folds_1 : decode cX5_folds 1 = .ok (.iload_n 1, 1) := by decide +kernel
theorem dX5_folds_2 : decode cX5_folds 2 = .ok (.invokevirtual 37, 3) := by decide +kernel
theorem dX5_folds_5 : decode cX5_folds 5 = .ok (.invokestatic 218, 3) := by decide +kernel
theorem dX5_folds_8 : decode cX5_folds 8 = .ok (.ireturn, 1) := by decide +kernel
theorem dX5_least_0 : decode cX5_least 0 = .ok (.aload_n 0, 1) := by decide +kernel
theorem dX5_least_1 : decode cX5_least 1 = .ok (.iload_n 1, 1) := by decide +kernel
theorem dX5_least_2 : decode cX5_least 2 = .ok (.invokevirtual 37, 3) := by decide +kernel
theorem dX5_least_5 : decode cX5_least 5 = .ok (.invokestatic 221, 3) := by decide +kernel
theorem dX5_least_8 : decode cX5_least 8 = .ok (.ireturn, 1) := by decide +kernel
theorem dX5_isApart_0 : decode cX5_isApart 0 = .ok (.aload_n 0, 1) := by decide +kernel
theorem dX5_isApart_1 : decode cX5_isApart 1 = .ok (.iload_n 1, 1) := by decide +kernel
theorem dX5_isApart_2 : decode cX5_isApart 2 = .ok (.iload_n 2, 1) := by decide +kernel
theorem dX5_isApart_3 : decode cX5_isApart 3 = .ok (.invokevirtual 114, 3) := by decide +kernel
theorem dX5_isApart_6 : decode cX5_isApart 6 = .ok (.aload_n 0, 1) := by decide +kernel
theorem dX5_isApart_7 : decode cX5_isApart 7 = .ok (.getfield 24, 3) := by decide +kernel
theorem dX5_isApart_10 : decode cX5_isApart 10 = .ok (.invokevirtual 129, 3) := by decide +kernel
theorem dX5_isApart_13 : decode cX5_isApart 13 = .ok (.ireturn, 1) := by decide +kernel
theorem dX5_turns_0 : decode cX5_turns 0 = .ok (.aload_n 0, 1) := by decide +kernel
theorem dX5_turns_1 : decode cX5_turns 1 = .ok (.iload_n 1, 1) := by decide +kernel
theorem dX5_turns_2 : decode cX5_turns 2 = .ok (.invokevirtual 140, 3) := by decide +kernel
theorem dX5_turns_5 : decode cX5_turns 5 = .ok (.astore_n 2, 1) := by decide +kernel
theorem dX5_turns_6 : decode cX5_turns 6 = .ok (.new 224, 3) := by decide +kernel
theorem dX5_turns_9 : decode cX5_turns 9 = .ok (.dup, 1) := by decide +kernel
theorem dX5_turns_10 : decode cX5_turns 10 = .ok (.invokespecial 226, 3) := by decide +kernel
theorem dX5_turns_13 : decode cX5_turns 13 = .ok (.astore_n 3, 1) := by decide +kernel
theorem dX5_turns_14 : decode cX5_turns 14 = .ok (.iconst 0, 1) := by decide +kernel
theorem dX5_turns_15 : decode cX5_turns 15 = .ok (.istore 4, 2) := by decide +kernel
theorem dX5_turns_17 : decode cX5_turns 17 = .ok (.iload 4, 2) := by decide +kernel
theorem dX5_turns_19 : decode cX5_turns 19 = .ok (.aload_n 2, 1) := by decide +kernel
theorem dX5_turns_20 : decode cX5_turns 20 = .ok (.getfield 178, 3) := by decide +kernel
theorem dX5_turns_23 : decode cX5_turns 23 = .ok (.if_icmp .ge 20, 3) := by decide +kernel
theorem dX5_turns_26 : decode cX5_turns 26 = .ok (.aload_n 3, 1) := by decide +kernel
theorem dX5_turns_27 : decode cX5_turns 27 = .ok (.aload_n 2, 1) := by decide +kernel
theorem dX5_turns_28 : decode cX5_turns 28 = .ok (.iload 4, 2) := by decide +kernel
theorem dX5_turns_30 : decode cX5_turns 30 = .ok (.invokevirtual 227, 3) := by decide +kernel
theorem dX5_turns_33 : decode cX5_turns 33 = .ok (.invokevirtual 230, 3) := by decide +kernel
theorem dX5_turns_36 : decode cX5_turns 36 = .ok (.pop, 1) := by decide +kernel
theorem dX5_turns_37 : decode cX5_turns 37 = .ok (.iinc 4 1, 3) := by decide +kernel
theorem dX5_turns_40 : decode cX5_turns 40 = .ok (.goto (-23), 3) := by decide +kernel
theorem dX5_turns_43 : decode cX5_turns 43 = .ok (.aload_n 3, 1) := by decide +kernel
theorem dX5_turns_44 : decode cX5_turns 44 = .ok (.invokevirtual 234, 3) := by decide +kernel
theorem dX5_turns_47 : decode cX5_turns 47 = .ok (.areturn, 1) := by decide +kernel
theorem dX5_grown_0 : decode cX5_grown 0 = .ok (.aload_n 0, 1) := by decide +kernel
theorem dX5_grown_1 : decode cX5_grown 1 = .ok (.iload_n 1, 1) := by decide +kernel
theorem dX5_grown_2 : decode cX5_grown 2 = .ok (.invokevirtual 140, 3) := by decide +kernel
theorem dX5_grown_5 : decode cX5_grown 5 = .ok (.iload_n 2, 1) := by decide +kernel
theorem dX5_grown_6 : decode cX5_grown 6 = .ok (.invokevirtual 238, 3) := by decide +kernel
theorem dX5_grown_9 : decode cX5_grown 9 = .ok (.invokestatic 187, 3) := by decide +kernel
theorem dX5_grown_12 : decode cX5_grown 12 = .ok (.areturn, 1) := by decide +kernel
theorem dX5_size_0 : decode cX5_size 0 = .ok (.aload_n 0, 1) := by decide +kernel
theorem dX5_size_1 : decode cX5_size 1 = .ok (.iload_n 1, 1) := by decide +kernel
theorem dX5_size_2 : decode cX5_size 2 = .ok (.invokevirtual 140, 3) := by decide +kernel
theorem dX5_size_5 : decode cX5_size 5 = .ok (.iload_n 2, 1) := by decide +kernel
theorem dX5_size_6 : decode cX5_size 6 = .ok (.invokevirtual 238, 3) := by decide +kernel
theorem dX5_size_9 : decode cX5_size 9 = .ok (.getfield 50, 3) := by decide +kernel
theorem dX5_size_12 : decode cX5_size 12 = .ok (.ireturn, 1) := by decide +kernel
theorem dX5_ups_0 : decode cX5_ups 0 = .ok (.aload_n 0, 1) := by decide +kernel
theorem dX5_ups_1 : decode cX5_ups 1 = .ok (.iload_n 1, 1) := by decide +kernel
theorem dX5_ups_2 : decode cX5_ups 2 = .ok (.invokevirtual 140, 3) := by decide +kernel
theorem dX5_ups_5 : decode cX5_ups 5 = .ok (.iload_n 2, 1) := by decide +kernel
theorem dX5_ups_6 : decode cX5_ups 6 = .ok (.invokevirtual 238, 3) := by decide +kernel
theorem dX5_ups_9 : decode cX5_ups 9 = .ok (.invokestatic 108, 3) := by decide +kernel
theorem dX5_ups_12 : decode cX5_ups 12 = .ok (.ireturn, 1) := by decide +kernel
theorem dX5_cross_0 : decode cX5_cross 0 = .ok (.aload_n 0, 1) := by decide +kernel
theorem dX5_cross_1 : decode cX5_cross 1 = .ok (.iload_n 1, 1) := by decide +kernel
theorem dX5_cross_2 : decode cX5_cross 2 = .ok (.invokevirtual 140, 3) := by decide +kernel
theorem dX5_cross_5 : decode cX5_cross 5 = .ok (.astore_n 2, 1) := by decide +kernel
theorem dX5_cross_6 : decode cX5_cross 6 = .ok (.aload_n 2, 1) := by decide +kernel
theorem dX5_cross_7 : decode cX5_cross 7 = .ok (.getfield 144, 3) := by decide +kernel
theorem dX5_cross_10 : decode cX5_cross 10 = .ok (.getfield 50, 3) := by decide +kernel
theorem dX5_cross_13 : decode cX5_cross 13 = .ok (.aload_n 2, 1) := by decide +kernel
theorem dX5_cross_14 : decode cX5_cross 14 = .ok (.getfield 242, 3) := by decide +kernel
theorem dX5_cross_17 : decode cX5_cross 17 = .ok (.invokestatic 108, 3) := by decide +kernel
theorem dX5_cross_20 : decode cX5_cross 20 = .ok (.imul, 1) := by decide +kernel
theorem dX5_cross_21 : decode cX5_cross 21 = .ok (.aload_n 2, 1) := by decide +kernel
theorem dX5_cross_22 : decode cX5_cross 22 = .ok (.getfield 242, 3) := by decide +kernel
theorem dX5_cross_25 : decode cX5_cross 25 = .ok (.getfield 50, 3) := by decide +kernel
theorem dX5_cross_28 : decode cX5_cross 28 = .ok (.aload_n 2, 1) := by decide +kernel
theorem dX5_cross_29 : decode cX5_cross 29 = .ok (.getfield 144, 3) := by decide +kernel
theorem dX5_cross_32 : decode cX5_cross 32 = .ok (.invokestatic 108, 3) := by decide +kernel
theorem dX5_cross_35 : decode cX5_cross 35 = .ok (.imul, 1) := by decide +kernel
theorem dX5_cross_36 : decode cX5_cross 36 = .ok (.isub, 1) := by decide +kernel
theorem dX5_cross_37 : decode cX5_cross 37 = .ok (.ireturn, 1) := by decide +kernel
theorem dX5_alike_0 : decode cX5_alike 0 = .ok (.aload_n 0, 1) := by decide +kernel
theorem dX5_alike_1 : decode cX5_alike 1 = .ok (.iload_n 1, 1) := by decide +kernel
theorem dX5_alike_2 : decode cX5_alike 2 = .ok (.invokevirtual 140, 3) := by decide +kernel
theorem dX5_alike_5 : decode cX5_alike 5 = .ok (.astore_n 2, 1) := by decide +kernel
theorem dX5_alike_6 : decode cX5_alike 6 = .ok (.aload_n 2, 1) := by decide +kernel
theorem dX5_alike_7 : decode cX5_alike 7 = .ok (.getfield 144, 3) := by decide +kernel
theorem dX5_alike_10 : decode cX5_alike 10 = .ok (.aload_n 2, 1) := by decide +kernel
theorem dX5_alike_11 : decode cX5_alike 11 = .ok (.getfield 242, 3) := by decide +kernel
theorem dX5_alike_14 : decode cX5_alike 14 = .ok (.invokestatic 245, 3) := by decide +kernel
theorem dX5_alike_17 : decode cX5_alike 17 = .ok (.ireturn, 1) := by decide +kernel
theorem dX5_house_0 : decode cX5_house 0 = .ok (.iload_n 1, 1) := by decide +kernel
theorem dX5_house_1 : decode cX5_house 1 = .ok (.ifCond .lt 12, 3) := by decide +kernel
theorem dX5_house_4 : decode cX5_house 4 = .ok (.iload_n 1, 1) := by decide +kernel
theorem dX5_house_5 : decode cX5_house 5 = .ok (.iconst 3, 1) := by decide +kernel
theorem dX5_house_6 : decode cX5_house 6 = .ok (.if_icmp .gt 7, 3) := by decide +kernel
theorem dX5_house_9 : decode cX5_house 9 = .ok (.iconst 1, 1) := by decide +kernel
theorem dX5_house_10 : decode cX5_house 10 = .ok (.goto 4, 3) := by decide +kernel
theorem dX5_house_13 : decode cX5_house 13 = .ok (.iconst 0, 1) := by decide +kernel
theorem dX5_house_14 : decode cX5_house 14 = .ok (.invokestatic 42, 3) := by decide +kernel
theorem dX5_house_17 : decode cX5_house 17 = .ok (.iload_n 1, 1) := by decide +kernel
theorem dX5_house_18 : decode cX5_house 18 = .ok (.ifCond .ne 8, 3) := by decide +kernel
theorem dX5_house_21 : decode cX5_house 21 = .ok (.aload_n 0, 1) := by decide +kernel
theorem dX5_house_22 : decode cX5_house 22 = .ok (.getfield 248, 3) := by decide +kernel
theorem dX5_house_25 : decode cX5_house 25 = .ok (.ireturn, 1) := by decide +kernel
theorem dX5_house_26 : decode cX5_house 26 = .ok (.iload_n 1, 1) := by decide +kernel
theorem dX5_house_27 : decode cX5_house 27 = .ok (.iconst 1, 1) := by decide +kernel
theorem dX5_house_28 : decode cX5_house 28 = .ok (.if_icmp .ne 8, 3) := by decide +kernel
theorem dX5_house_31 : decode cX5_house 31 = .ok (.aload_n 0, 1) := by decide +kernel
theorem dX5_house_32 : decode cX5_house 32 = .ok (.getfield 251, 3) := by decide +kernel
theorem dX5_house_35 : decode cX5_house 35 = .ok (.ireturn, 1) := by decide +kernel
theorem dX5_house_36 : decode cX5_house 36 = .ok (.iload_n 1, 1) := by decide +kernel
theorem dX5_house_37 : decode cX5_house 37 = .ok (.iconst 2, 1) := by decide +kernel
theorem dX5_house_38 : decode cX5_house 38 = .ok (.if_icmp .ne 10, 3) := by decide +kernel
theorem dX5_house_41 : decode cX5_house 41 = .ok (.aload_n 0, 1) := by decide +kernel
theorem dX5_house_42 : decode cX5_house 42 = .ok (.getfield 254, 3) := by decide +kernel
theorem dX5_house_45 : decode cX5_house 45 = .ok (.goto 7, 3) := by decide +kernel
theorem dX5_house_48 : decode cX5_house 48 = .ok (.aload_n 0, 1) := by decide +kernel
theorem dX5_house_49 : decode cX5_house 49 = .ok (.getfield 257, 3) := by decide +kernel
theorem dX5_house_52 : decode cX5_house 52 = .ok (.ireturn, 1) := by decide +kernel
theorem dX5_knock_0 : decode cX5_knock 0 = .ok (.aload_n 0, 1) := by decide +kernel
theorem dX5_knock_1 : decode cX5_knock 1 = .ok (.dup, 1) := by decide +kernel
theorem dX5_knock_2 : decode cX5_knock 2 = .ok (.getfield 257, 3) := by decide +kernel
theorem dX5_knock_5 : decode cX5_knock 5 = .ok (.iconst 1, 1) := by decide +kernel
theorem dX5_knock_6 : decode cX5_knock 6 = .ok (.iadd, 1) := by decide +kernel
theorem dX5_knock_7 : decode cX5_knock 7 = .ok (.putfield 257, 3) := by decide +kernel
theorem dX5_knock_10 : decode cX5_knock 10 = .ok (.aload_n 0, 1) := by decide +kernel
theorem dX5_knock_11 : decode cX5_knock 11 = .ok (.getfield 257, 3) := by decide +kernel
theorem dX5_knock_14 : decode cX5_knock 14 = .ok (.ireturn, 1) := by decide +kernel
theorem dX5_isSound_0 : decode cX5_isSound 0 = .ok (.iconst 0, 1) := by decide +kernel
theorem dX5_isSound_1 : decode cX5_isSound 1 = .ok (.istore_n 1, 1) := by decide +kernel
theorem dX5_isSound_2 : decode cX5_isSound 2 = .ok (.iload_n 1, 1) := by decide +kernel
theorem dX5_isSound_3 : decode cX5_isSound 3 = .ok (.iconst 3, 1) := by decide +kernel
theorem dX5_isSound_4 : decode cX5_isSound 4 = .ok (.if_icmp .ge 19, 3) := by decide +kernel
theorem dX5_isSound_7 : decode cX5_isSound 7 = .ok (.aload_n 0, 1) := by decide +kernel
theorem dX5_isSound_8 : decode cX5_isSound 8 = .ok (.iload_n 1, 1) := by decide +kernel
theorem dX5_isSound_9 : decode cX5_isSound 9 = .ok (.invokevirtual 260, 3) := by decide +kernel
theorem dX5_isSound_12 : decode cX5_isSound 12 = .ok (.ifCond .ne 5, 3) := by decide +kernel
theorem dX5_isSound_15 : decode cX5_isSound 15 = .ok (.iconst 0, 1) := by decide +kernel
theorem dX5_isSound_16 : decode cX5_isSound 16 = .ok (.ireturn, 1) := by decide +kernel
theorem dX5_isSound_17 : decode cX5_isSound 17 = .ok (.iinc 1 1, 3) := by decide +kernel
theorem dX5_isSound_20 : decode cX5_isSound 20 = .ok (.goto (-18), 3) := by decide +kernel
theorem dX5_isSound_23 : decode cX5_isSound 23 = .ok (.iconst 0, 1) := by decide +kernel
theorem dX5_isSound_24 : decode cX5_isSound 24 = .ok (.istore_n 1, 1) := by decide +kernel
theorem dX5_isSound_25 : decode cX5_isSound 25 = .ok (.iload_n 1, 1) := by decide +kernel
theorem dX5_isSound_26 : decode cX5_isSound 26 = .ok (.iconst 2, 1) := by decide +kernel
theorem dX5_isSound_27 : decode cX5_isSound 27 = .ok (.if_icmp .ge 19, 3) := by decide +kernel
theorem dX5_isSound_30 : decode cX5_isSound 30 = .ok (.aload_n 0, 1) := by decide +kernel
theorem dX5_isSound_31 : decode cX5_isSound 31 = .ok (.iload_n 1, 1) := by decide +kernel
theorem dX5_isSound_32 : decode cX5_isSound 32 = .ok (.invokevirtual 263, 3) := by decide +kernel
theorem dX5_isSound_35 : decode cX5_isSound 35 = .ok (.ifCond .ne 5, 3) := by decide +kernel
theorem dX5_isSound_38 : decode cX5_isSound 38 = .ok (.iconst 0, 1) := by decide +kernel
theorem dX5_isSound_39 : decode cX5_isSound 39 = .ok (.ireturn, 1) := by decide +kernel
theorem dX5_isSound_40 : decode cX5_isSound 40 = .ok (.iinc 1 1, 3) := by decide +kernel
theorem dX5_isSound_43 : decode cX5_isSound 43 = .ok (.goto (-18), 3) := by decide +kernel
theorem dX5_isSound_46 : decode cX5_isSound 46 = .ok (.iconst 1, 1) := by decide +kernel
theorem dX5_isSound_47 : decode cX5_isSound 47 = .ok (.ireturn, 1) := by decide +kernel
theorem dX5_digest_0 : decode cX5_digest 0 = .ok (.ldc2_w 266, 3) := by decide +kernel
theorem dX5_digest_3 : decode cX5_digest 3 = .ok (.lstore_n 1, 1) := by decide +kernel
theorem dX5_digest_4 : decode cX5_digest 4 = .ok (.iconst 0, 1) := by decide +kernel
theorem dX5_digest_5 : decode cX5_digest 5 = .ok (.istore_n 3, 1) := by decide +kernel
theorem dX5_digest_6 : decode cX5_digest 6 = .ok (.iload_n 3, 1) := by decide +kernel
theorem dX5_digest_7 : decode cX5_digest 7 = .ok (.iconst 3, 1) := by decide +kernel
theorem dX5_digest_8 : decode cX5_digest 8 = .ok (.if_icmp .ge 16, 3) := by decide +kernel
theorem dX5_digest_11 : decode cX5_digest 11 = .ok (.aload_n 0, 1) := by decide +kernel
theorem dX5_digest_12 : decode cX5_digest 12 = .ok (.lload_n 1, 1) := by decide +kernel
theorem dX5_digest_13 : decode cX5_digest 13 = .ok (.iload_n 3, 1) := by decide +kernel
theorem dX5_digest_14 : decode cX5_digest 14 = .ok (.invokevirtual 268, 3) := by decide +kernel
theorem dX5_digest_17 : decode cX5_digest 17 = .ok (.lstore_n 1, 1) := by decide +kernel
theorem dX5_digest_18 : decode cX5_digest 18 = .ok (.iinc 3 1, 3) := by decide +kernel
theorem dX5_digest_21 : decode cX5_digest 21 = .ok (.goto (-15), 3) := by decide +kernel
theorem dX5_digest_24 : decode cX5_digest 24 = .ok (.iconst 0, 1) := by decide +kernel
theorem dX5_digest_25 : decode cX5_digest 25 = .ok (.istore_n 3, 1) := by decide +kernel
theorem dX5_digest_26 : decode cX5_digest 26 = .ok (.iload_n 3, 1) := by decide +kernel
theorem dX5_digest_27 : decode cX5_digest 27 = .ok (.iconst 2, 1) := by decide +kernel
theorem dX5_digest_28 : decode cX5_digest 28 = .ok (.if_icmp .ge 16, 3) := by decide +kernel
theorem dX5_digest_31 : decode cX5_digest 31 = .ok (.aload_n 0, 1) := by decide +kernel
theorem dX5_digest_32 : decode cX5_digest 32 = .ok (.lload_n 1, 1) := by decide +kernel
theorem dX5_digest_33 : decode cX5_digest 33 = .ok (.iload_n 3, 1) := by decide +kernel
theorem dX5_digest_34 : decode cX5_digest 34 = .ok (.invokevirtual 272, 3) := by decide +kernel
theorem dX5_digest_37 : decode cX5_digest 37 = .ok (.lstore_n 1, 1) := by decide +kernel
theorem dX5_digest_38 : decode cX5_digest 38 = .ok (.iinc 3 1, 3) := by decide +kernel
theorem dX5_digest_41 : decode cX5_digest 41 = .ok (.goto (-15), 3) := by decide +kernel
theorem dX5_digest_44 : decode cX5_digest 44 = .ok (.iconst 0, 1) := by decide +kernel
theorem dX5_digest_45 : decode cX5_digest 45 = .ok (.istore_n 3, 1) := by decide +kernel
theorem dX5_digest_46 : decode cX5_digest 46 = .ok (.iload_n 3, 1) := by decide +kernel
theorem dX5_digest_47 : decode cX5_digest 47 = .ok (.iconst 3, 1) := by decide +kernel
theorem dX5_digest_48 : decode cX5_digest 48 = .ok (.if_icmp .gt 20, 3) := by decide +kernel
theorem dX5_digest_51 : decode cX5_digest 51 = .ok (.lload_n 1, 1) := by decide +kernel
theorem dX5_digest_52 : decode cX5_digest 52 = .ok (.aload_n 0, 1) := by decide +kernel
theorem dX5_digest_53 : decode cX5_digest 53 = .ok (.iload_n 3, 1) := by decide +kernel
theorem dX5_digest_54 : decode cX5_digest 54 = .ok (.invokevirtual 275, 3) := by decide +kernel
theorem dX5_digest_57 : decode cX5_digest 57 = .ok (.i2l, 1) := by decide +kernel
theorem dX5_digest_58 : decode cX5_digest 58 = .ok (.invokestatic 278, 3) := by decide +kernel
theorem dX5_digest_61 : decode cX5_digest 61 = .ok (.lstore_n 1, 1) := by decide +kernel
theorem dX5_digest_62 : decode cX5_digest 62 = .ok (.iinc 3 1, 3) := by decide +kernel
theorem dX5_digest_65 : decode cX5_digest 65 = .ok (.goto (-19), 3) := by decide +kernel
theorem dX5_digest_68 : decode cX5_digest 68 = .ok (.lload_n 1, 1) := by decide +kernel
theorem dX5_digest_69 : decode cX5_digest 69 = .ok (.aload_n 0, 1) := by decide +kernel
theorem dX5_digest_70 : decode cX5_digest 70 = .ok (.invokevirtual 282, 3) := by decide +kernel
theorem dX5_digest_73 : decode cX5_digest 73 = .ok (.invokestatic 79, 3) := by decide +kernel
theorem dX5_digest_76 : decode cX5_digest 76 = .ok (.i2l, 1) := by decide +kernel
theorem dX5_digest_77 : decode cX5_digest 77 = .ok (.invokestatic 278, 3) := by decide +kernel
theorem dX5_digest_80 : decode cX5_digest 80 = .ok (.lreturn, 1) := by decide +kernel
theorem dX5_wordOf_0 : decode cX5_wordOf 0 = .ok (.iload_n 1, 1) := by decide +kernel
theorem dX5_wordOf_1 : decode cX5_wordOf 1 = .ok (.ifCond .lt 12, 3) := by decide +kernel
theorem dX5_wordOf_4 : decode cX5_wordOf 4 = .ok (.iload_n 1, 1) := by decide +kernel
theorem dX5_wordOf_5 : decode cX5_wordOf 5 = .ok (.aload_n 0, 1) := by decide +kernel
theorem dX5_wordOf_6 : decode cX5_wordOf 6 = .ok (.getfield 11, 3) := by decide +kernel
theorem dX5_wordOf_9 : decode cX5_wordOf 9 = .ok (.arraylength, 1) := by decide +kernel
theorem dX5_wordOf_10 : decode cX5_wordOf 10 = .ok (.if_icmp .lt 14, 3) := by decide +kernel
theorem dX5_wordOf_13 : decode cX5_wordOf 13 = .ok (.new 285, 3) := by decide +kernel
theorem dX5_wordOf_16 : decode cX5_wordOf 16 = .ok (.dup, 1) := by decide +kernel
theorem dX5_wordOf_17 : decode cX5_wordOf 17 = .ok (.ldc_w 287, 3) := by decide +kernel
theorem dX5_wordOf_20 : decode cX5_wordOf 20 = .ok (.invokespecial 289, 3) := by decide +kernel
theorem dX5_wordOf_23 : decode cX5_wordOf 23 = .ok (.athrow, 1) := by decide +kernel
theorem dX5_wordOf_24 : decode cX5_wordOf 24 = .ok (.aload_n 0, 1) := by decide +kernel
theorem dX5_wordOf_25 : decode cX5_wordOf 25 = .ok (.getfield 11, 3) := by decide +kernel
theorem dX5_wordOf_28 : decode cX5_wordOf 28 = .ok (.iload_n 1, 1) := by decide +kernel
theorem dX5_wordOf_29 : decode cX5_wordOf 29 = .ok (.aaload, 1) := by decide +kernel
theorem dX5_wordOf_30 : decode cX5_wordOf 30 = .ok (.areturn, 1) := by decide +kernel
theorem dX5_growthOf_0 : decode cX5_growthOf 0 = .ok (.iload_n 1, 1) := by decide +kernel
theorem dX5_growthOf_1 : decode cX5_growthOf 1 = .ok (.ifCond .lt 12, 3) := by decide +kernel
theorem dX5_growthOf_4 : decode cX5_growthOf 4 = .ok (.iload_n 1, 1) := by decide +kernel
theorem dX5_growthOf_5 : decode cX5_growthOf 5 = .ok (.aload_n 0, 1) := by decide +kernel
theorem dX5_growthOf_6 : decode cX5_growthOf 6 = .ok (.getfield 17, 3) := by decide +kernel
theorem dX5_growthOf_9 : decode cX5_growthOf 9 = .ok (.arraylength, 1) := by decide +kernel
theorem dX5_growthOf_10 : decode cX5_growthOf 10 = .ok (.if_icmp .lt 14, 3) := by decide +kernel
theorem dX5_growthOf_13 : decode cX5_growthOf 13 = .ok (.new 285, 3) := by decide +kernel
theorem dX5_growthOf_16 : decode cX5_growthOf 16 = .ok (.dup, 1) := by decide +kernel
theorem dX5_growthOf_17 : decode cX5_growthOf 17 = .ok (.ldc_w 292, 3) := by decide +kernel
theorem dX5_growthOf_20 : decode cX5_growthOf 20 = .ok (.invokespecial 289, 3) := by decide +kernel
theorem dX5_growthOf_23 : decode cX5_growthOf 23 = .ok (.athrow, 1) := by decide +kernel
theorem dX5_growthOf_24 : decode cX5_growthOf 24 = .ok (.aload_n 0, 1) := by decide +kernel
theorem dX5_growthOf_25 : decode cX5_growthOf 25 = .ok (.getfield 17, 3) := by decide +kernel
theorem dX5_growthOf_28 : decode cX5_growthOf 28 = .ok (.iload_n 1, 1) := by decide +kernel
theorem dX5_growthOf_29 : decode cX5_growthOf 29 = .ok (.aaload, 1) := by decide +kernel
theorem dX5_growthOf_30 : decode cX5_growthOf 30 = .ok (.areturn, 1) := by decide +kernel
theorem dX5_needIndex_0 : decode cX5_needIndex 0 = .ok (.iload_n 0, 1) := by decide +kernel
theorem dX5_needIndex_1 : decode cX5_needIndex 1 = .ok (.ifCond .ne 14, 3) := by decide +kernel
theorem dX5_needIndex_4 : decode cX5_needIndex 4 = .ok (.new 285, 3) := by decide +kernel
theorem dX5_needIndex_7 : decode cX5_needIndex 7 = .ok (.dup, 1) := by decide +kernel
theorem dX5_needIndex_8 : decode cX5_needIndex 8 = .ok (.ldc_w 294, 3) := by decide +kernel
theorem dX5_needIndex_11 : decode cX5_needIndex 11 = .ok (.invokespecial 289, 3) := by decide +kernel
theorem dX5_needIndex_14 : decode cX5_needIndex 14 = .ok (.athrow, 1) := by decide +kernel
theorem dX5_needIndex_15 : decode cX5_needIndex 15 = .ok (.return_, 1) := by decide +kernel
theorem dX5_needArgument_0 : decode cX5_needArgument 0 = .ok (.iload_n 0, 1) := by decide +kernel
theorem dX5_needArgument_1 : decode cX5_needArgument 1 = .ok (.ifCond .ne 14, 3) := by decide +kernel
theorem dX5_needArgument_4 : decode cX5_needArgument 4 = .ok (.new 296, 3) := by decide +kernel
theorem dX5_needArgument_7 : decode cX5_needArgument 7 = .ok (.dup, 1) := by decide +kernel
theorem dX5_needArgument_8 : decode cX5_needArgument 8 = .ok (.ldc_w 298, 3) := by decide +kernel
theorem dX5_needArgument_11 : decode cX5_needArgument 11 = .ok (.invokespecial 300, 3) := by decide +kernel
theorem dX5_needArgument_14 : decode cX5_needArgument 14 = .ok (.athrow, 1) := by decide +kernel
theorem dX5_needArgument_15 : decode cX5_needArgument 15 = .ok (.return_, 1) := by decide +kernel
theorem dX5_needState_0 : decode cX5_needState 0 = .ok (.iload_n 0, 1) := by decide +kernel
theorem dX5_needState_1 : decode cX5_needState 1 = .ok (.ifCond .ne 14, 3) := by decide +kernel
theorem dX5_needState_4 : decode cX5_needState 4 = .ok (.new 301, 3) := by decide +kernel
theorem dX5_needState_7 : decode cX5_needState 7 = .ok (.dup, 1) := by decide +kernel
theorem dX5_needState_8 : decode cX5_needState 8 = .ok (.ldc_w 303, 3) := by decide +kernel
theorem dX5_needState_11 : decode cX5_needState 11 = .ok (.invokespecial 305, 3) := by decide +kernel
theorem dX5_needState_14 : decode cX5_needState 14 = .ok (.athrow, 1) := by decide +kernel
theorem dX5_needState_15 : decode cX5_needState 15 = .ok (.return_, 1) := by decide +kernel
theorem dX5_oneIf_0 : decode cX5_oneIf 0 = .ok (.iload_n 0, 1) := by decide +kernel
theorem dX5_oneIf_1 : decode cX5_oneIf 1 = .ok (.ifCond .eq 7, 3) := by decide +kernel
theorem dX5_oneIf_4 : decode cX5_oneIf 4 = .ok (.iconst 1, 1) := by decide +kernel
theorem dX5_oneIf_5 : decode cX5_oneIf 5 = .ok (.goto 4, 3) := by decide +kernel
theorem dX5_oneIf_8 : decode cX5_oneIf 8 = .ok (.iconst 0, 1) := by decide +kernel
theorem dX5_oneIf_9 : decode cX5_oneIf 9 = .ok (.ireturn, 1) := by decide +kernel
theorem dX5_sheetActDone_0 : decode cX5_sheetActDone 0 = .ok (.aload_n 0, 1) := by decide +kernel
theorem dX5_sheetActDone_1 : decode cX5_sheetActDone 1 = .ok (.dup, 1) := by decide +kernel
theorem dX5_sheetActDone_2 : decode cX5_sheetActDone 2 = .ok (.getfield 248, 3) := by decide +kernel
theorem dX5_sheetActDone_5 : decode cX5_sheetActDone 5 = .ok (.iconst 1, 1) := by decide +kernel
theorem dX5_sheetActDone_6 : decode cX5_sheetActDone 6 = .ok (.iadd, 1) := by decide +kernel
theorem dX5_sheetActDone_7 : decode cX5_sheetActDone 7 = .ok (.putfield 248, 3) := by decide +kernel
theorem dX5_sheetActDone_10 : decode cX5_sheetActDone 10 = .ok (.iload_n 1, 1) := by decide +kernel
theorem dX5_sheetActDone_11 : decode cX5_sheetActDone 11 = .ok (.ireturn, 1) := by decide +kernel
theorem dX5_growthActDone_0 : decode cX5_growthActDone 0 = .ok (.aload_n 0, 1) := by decide +kernel
theorem dX5_growthActDone_1 : decode cX5_growthActDone 1 = .ok (.dup, 1) := by decide +kernel
theorem dX5_growthActDone_2 : decode cX5_growthActDone 2 = .ok (.getfield 251, 3) := by decide +kernel
theorem dX5_growthActDone_5 : decode cX5_growthActDone 5 = .ok (.iconst 1, 1) := by decide +kernel
theorem dX5_growthActDone_6 : decode cX5_growthActDone 6 = .ok (.iadd, 1) := by decide +kernel
theorem dX5_growthActDone_7 : decode cX5_growthActDone 7 = .ok (.putfield 251, 3) := by decide +kernel
theorem dX5_growthActDone_10 : decode cX5_growthActDone 10 = .ok (.iload_n 1, 1) := by decide +kernel
theorem dX5_growthActDone_11 : decode cX5_growthActDone 11 = .ok (.ireturn, 1) := by decide +kernel
theorem dX5_refuse_0 : decode cX5_refuse 0 = .ok (.aload_n 0, 1) := by decide +kernel
theorem dX5_refuse_1 : decode cX5_refuse 1 = .ok (.dup, 1) := by decide +kernel
theorem dX5_refuse_2 : decode cX5_refuse 2 = .ok (.getfield 254, 3) := by decide +kernel
theorem dX5_refuse_5 : decode cX5_refuse 5 = .ok (.iconst 1, 1) := by decide +kernel
theorem dX5_refuse_6 : decode cX5_refuse 6 = .ok (.iadd, 1) := by decide +kernel
theorem dX5_refuse_7 : decode cX5_refuse 7 = .ok (.putfield 254, 3) := by decide +kernel
theorem dX5_refuse_10 : decode cX5_refuse 10 = .ok (.bipush (-9), 2) := by decide +kernel
theorem dX5_refuse_12 : decode cX5_refuse 12 = .ok (.ireturn, 1) := by decide +kernel
theorem dX5_exchangePart_0 : decode cX5_exchangePart 0 = .ok (.aload_n 1, 1) := by decide +kernel
theorem dX5_exchangePart_1 : decode cX5_exchangePart 1 = .ok (.getfield 50, 3) := by decide +kernel
theorem dX5_exchangePart_4 : decode cX5_exchangePart 4 = .ok (.iload_n 3, 1) := by decide +kernel
theorem dX5_exchangePart_5 : decode cX5_exchangePart 5 = .ok (.iload_n 2, 1) := by decide +kernel
theorem dX5_exchangePart_6 : decode cX5_exchangePart 6 = .ok (.isub, 1) := by decide +kernel
theorem dX5_exchangePart_7 : decode cX5_exchangePart 7 = .ok (.isub, 1) := by decide +kernel
theorem dX5_exchangePart_8 : decode cX5_exchangePart 8 = .ok (.aload 4, 2) := by decide +kernel
theorem dX5_exchangePart_10 : decode cX5_exchangePart 10 = .ok (.getfield 50, 3) := by decide +kernel
theorem dX5_exchangePart_13 : decode cX5_exchangePart 13 = .ok (.iadd, 1) := by decide +kernel
theorem dX5_exchangePart_14 : decode cX5_exchangePart 14 = .ok (.bipush 64, 2) := by decide +kernel
theorem dX5_exchangePart_16 : decode cX5_exchangePart 16 = .ok (.if_icmp .le 8, 3) := by decide +kernel
theorem dX5_exchangePart_19 : decode cX5_exchangePart 19 = .ok (.aload_n 0, 1) := by decide +kernel
theorem dX5_exchangePart_20 : decode cX5_exchangePart 20 = .ok (.invokevirtual 121, 3) := by decide +kernel
theorem dX5_exchangePart_23 : decode cX5_exchangePart 23 = .ok (.ireturn, 1) := by decide +kernel
theorem dX5_exchangePart_24 : decode cX5_exchangePart 24 = .ok (.aload_n 0, 1) := by decide +kernel
theorem dX5_exchangePart_25 : decode cX5_exchangePart 25 = .ok (.getfield 29, 3) := by decide +kernel
theorem dX5_exchangePart_28 : decode cX5_exchangePart 28 = .ok (.invokevirtual 65, 3) := by decide +kernel
theorem dX5_exchangePart_31 : decode cX5_exchangePart 31 = .ok (.aload_n 0, 1) := by decide +kernel
theorem dX5_exchangePart_32 : decode cX5_exchangePart 32 = .ok (.getfield 29, 3) := by decide +kernel
theorem dX5_exchangePart_35 : decode cX5_exchangePart 35 = .ok (.aload_n 1, 1) := by decide +kernel
theorem dX5_exchangePart_36 : decode cX5_exchangePart 36 = .ok (.iconst 0, 1) := by decide +kernel
theorem dX5_exchangePart_37 : decode cX5_exchangePart 37 = .ok (.iload_n 2, 1) := by decide +kernel
theorem dX5_exchangePart_38 : decode cX5_exchangePart 38 = .ok (.invokevirtual 93, 3) := by decide +kernel
theorem dX5_exchangePart_41 : decode cX5_exchangePart 41 = .ok (.aload_n 0, 1) := by decide +kernel
theorem dX5_exchangePart_42 : decode cX5_exchangePart 42 = .ok (.getfield 29, 3) := by decide +kernel
theorem dX5_exchangePart_45 : decode cX5_exchangePart 45 = .ok (.aload 4, 2) := by decide +kernel
theorem dX5_exchangePart_47 : decode cX5_exchangePart 47 = .ok (.iconst 0, 1) := by decide +kernel
theorem dX5_exchangePart_48 : decode cX5_exchangePart 48 = .ok (.aload 4, 2) := by decide +kernel
theorem dX5_exchangePart_50 : decode cX5_exchangePart 50 = .ok (.getfield 50, 3) := by decide +kernel
theorem dX5_exchangePart_53 : decode cX5_exchangePart 53 = .ok (.invokevirtual 93, 3) := by decide +kernel
theorem dX5_exchangePart_56 : decode cX5_exchangePart 56 = .ok (.aload_n 0, 1) := by decide +kernel
theorem dX5_exchangePart_57 : decode cX5_exchangePart 57 = .ok (.getfield 29, 3) := by decide +kernel
theorem dX5_exchangePart_60 : decode cX5_exchangePart 60 = .ok (.aload_n 1, 1) := by decide +kernel
theorem dX5_exchangePart_61 : decode cX5_exchangePart 61 = .ok (.iload_n 3, 1) := by decide +kernel
theorem dX5_exchangePart_62 : decode cX5_exchangePart 62 = .ok (.aload_n 1, 1) := by decide +kernel
theorem dX5_exchangePart_63 : decode cX5_exchangePart 63 = .ok (.getfield 50, 3) := by decide +kernel
theorem dX5_exchangePart_66 : decode cX5_exchangePart 66 = .ok (.invokevirtual 93, 3) := by decide +kernel
theorem dX5_exchangePart_69 : decode cX5_exchangePart 69 = .ok (.aload_n 1, 1) := by decide +kernel
theorem dX5_exchangePart_70 : decode cX5_exchangePart 70 = .ok (.aload_n 0, 1) := by decide +kernel
theorem dX5_exchangePart_71 : decode cX5_exchangePart 71 = .ok (.getfield 29, 3) := by decide +kernel
theorem dX5_exchangePart_74 : decode cX5_exchangePart 74 = .ok (.invokevirtual 97, 3) := by decide +kernel
theorem dX5_exchangePart_77 : decode cX5_exchangePart 77 = .ok (.aload_n 0, 1) := by decide +kernel
theorem dX5_exchangePart_78 : decode cX5_exchangePart 78 = .ok (.aload_n 1, 1) := by decide +kernel
theorem dX5_exchangePart_79 : decode cX5_exchangePart 79 = .ok (.getfield 50, 3) := by decide +kernel
theorem dX5_exchangePart_82 : decode cX5_exchangePart 82 = .ok (.invokevirtual 54, 3) := by decide +kernel
theorem dX5_exchangePart_85 : decode cX5_exchangePart 85 = .ok (.ireturn, 1) := by decide +kernel
theorem dX5_takeOut_0 : decode cX5_takeOut 0 = .ok (.aload_n 1, 1) := by decide +kernel
theorem dX5_takeOut_1 : decode cX5_takeOut 1 = .ok (.iload_n 2, 1) := by decide +kernel
theorem dX5_takeOut_2 : decode cX5_takeOut 2 = .ok (.iload_n 3, 1) := by decide +kernel
theorem dX5_takeOut_3 : decode cX5_takeOut 3 = .ok (.iload_n 2, 1) := by decide +kernel
theorem dX5_takeOut_4 : decode cX5_takeOut 4 = .ok (.isub, 1) := by decide +kernel
theorem dX5_takeOut_5 : decode cX5_takeOut 5 = .ok (.invokestatic 306, 3) := by decide +kernel
theorem dX5_takeOut_8 : decode cX5_takeOut 8 = .ok (.istore 4, 2) := by decide +kernel
theorem dX5_takeOut_10 : decode cX5_takeOut 10 = .ok (.aload_n 0, 1) := by decide +kernel
theorem dX5_takeOut_11 : decode cX5_takeOut 11 = .ok (.getfield 29, 3) := by decide +kernel
theorem dX5_takeOut_14 : decode cX5_takeOut 14 = .ok (.invokevirtual 65, 3) := by decide +kernel
theorem dX5_takeOut_17 : decode cX5_takeOut 17 = .ok (.aload_n 0, 1) := by decide +kernel
theorem dX5_takeOut_18 : decode cX5_takeOut 18 = .ok (.getfield 29, 3) := by decide +kernel
theorem dX5_takeOut_21 : decode cX5_takeOut 21 = .ok (.aload_n 1, 1) := by decide +kernel
theorem dX5_takeOut_22 : decode cX5_takeOut 22 = .ok (.iconst 0, 1) := by decide +kernel
theorem dX5_takeOut_23 : decode cX5_takeOut 23 = .ok (.iload_n 2, 1) := by decide +kernel
theorem dX5_takeOut_24 : decode cX5_takeOut 24 = .ok (.invokevirtual 93, 3) := by decide +kernel
theorem dX5_takeOut_27 : decode cX5_takeOut 27 = .ok (.aload_n 0, 1) := by decide +kernel
theorem dX5_takeOut_28 : decode cX5_takeOut 28 = .ok (.getfield 29, 3) := by decide +kernel
theorem dX5_takeOut_31 : decode cX5_takeOut 31 = .ok (.aload_n 1, 1) := by decide +kernel
theorem dX5_takeOut_32 : decode cX5_takeOut 32 = .ok (.iload_n 3, 1) := by decide +kernel
theorem dX5_takeOut_33 : decode cX5_takeOut 33 = .ok (.aload_n 1, 1) := by decide +kernel
theorem dX5_takeOut_34 : decode cX5_takeOut 34 = .ok (.getfield 50, 3) := by decide +kernel
theorem dX5_takeOut_37 : decode cX5_takeOut 37 = .ok (.invokevirtual 93, 3) := by decide +kernel
theorem dX5_takeOut_40 : decode cX5_takeOut 40 = .ok (.aload_n 1, 1) := by decide +kernel
theorem dX5_takeOut_41 : decode cX5_takeOut 41 = .ok (.aload_n 0, 1) := by decide +kernel
theorem dX5_takeOut_42 : decode cX5_takeOut 42 = .ok (.getfield 29, 3) := by decide +kernel
theorem dX5_takeOut_45 : decode cX5_takeOut 45 = .ok (.invokevirtual 97, 3) := by decide +kernel
theorem dX5_takeOut_48 : decode cX5_takeOut 48 = .ok (.aload_n 0, 1) := by decide +kernel
theorem dX5_takeOut_49 : decode cX5_takeOut 49 = .ok (.iload 4, 2) := by decide +kernel
theorem dX5_takeOut_51 : decode cX5_takeOut 51 = .ok (.invokevirtual 54, 3) := by decide +kernel
theorem dX5_takeOut_54 : decode cX5_takeOut 54 = .ok (.ireturn, 1) := by decide +kernel
theorem dX5_settle_0 : decode cX5_settle 0 = .ok (.aload_n 1, 1) := by decide +kernel
theorem dX5_settle_1 : decode cX5_settle 1 = .ok (.aload_n 2, 1) := by decide +kernel
theorem dX5_settle_2 : decode cX5_settle 2 = .ok (.invokestatic 195, 3) := by decide +kernel
theorem dX5_settle_5 : decode cX5_settle 5 = .ok (.ifCond .ne 7, 3) := by decide +kernel
theorem dX5_settle_8 : decode cX5_settle 8 = .ok (.iconst 1, 1) := by decide +kernel
theorem dX5_settle_9 : decode cX5_settle 9 = .ok (.goto 4, 3) := by decide +kernel
theorem dX5_settle_12 : decode cX5_settle 12 = .ok (.iconst 0, 1) := by decide +kernel
theorem dX5_settle_13 : decode cX5_settle 13 = .ok (.istore_n 3, 1) := by decide +kernel
theorem dX5_settle_14 : decode cX5_settle 14 = .ok (.aload_n 1, 1) := by decide +kernel
theorem dX5_settle_15 : decode cX5_settle 15 = .ok (.aload_n 2, 1) := by decide +kernel
theorem dX5_settle_16 : decode cX5_settle 16 = .ok (.invokevirtual 97, 3) := by decide +kernel
theorem dX5_settle_19 : decode cX5_settle 19 = .ok (.aload_n 0, 1) := by decide +kernel
theorem dX5_settle_20 : decode cX5_settle 20 = .ok (.iload_n 3, 1) := by decide +kernel
theorem dX5_settle_21 : decode cX5_settle 21 = .ok (.ifCond .ne 7, 3) := by decide +kernel
theorem dX5_settle_24 : decode cX5_settle 24 = .ok (.iconst 1, 1) := by decide +kernel
theorem dX5_settle_25 : decode cX5_settle 25 = .ok (.goto 4, 3) := by decide +kernel
theorem dX5_settle_28 : decode cX5_settle 28 = .ok (.iconst 0, 1) := by decide +kernel
theorem dX5_settle_29 : decode cX5_settle 29 = .ok (.invokestatic 79, 3) := by decide +kernel
theorem dX5_settle_32 : decode cX5_settle 32 = .ok (.invokevirtual 54, 3) := by decide +kernel
theorem dX5_settle_35 : decode cX5_settle 35 = .ok (.ireturn, 1) := by decide +kernel
theorem dX5_takeRule_0 : decode cX5_takeRule 0 = .ok (.iload_n 1, 1) := by decide +kernel
theorem dX5_takeRule_1 : decode cX5_takeRule 1 = .ok (.iconst 2, 1) := by decide +kernel
theorem dX5_takeRule_2 : decode cX5_takeRule 2 = .ok (.if_icmp .lt 13, 3) := by decide +kernel
theorem dX5_takeRule_5 : decode cX5_takeRule 5 = .ok (.iload_n 1, 1) := by decide +kernel
theorem dX5_takeRule_6 : decode cX5_takeRule 6 = .ok (.bipush 31, 2) := by decide +kernel
theorem dX5_takeRule_8 : decode cX5_takeRule 8 = .ok (.if_icmp .gt 7, 3) := by decide +kernel
theorem dX5_takeRule_11 : decode cX5_takeRule 11 = .ok (.iconst 1, 1) := by decide +kernel
theorem dX5_takeRule_12 : decode cX5_takeRule 12 = .ok (.goto 4, 3) := by decide +kernel
theorem dX5_takeRule_15 : decode cX5_takeRule 15 = .ok (.iconst 0, 1) := by decide +kernel
theorem dX5_takeRule_16 : decode cX5_takeRule 16 = .ok (.invokestatic 42, 3) := by decide +kernel
theorem dX5_takeRule_19 : decode cX5_takeRule 19 = .ok (.iload_n 2, 1) := by decide +kernel
theorem dX5_takeRule_20 : decode cX5_takeRule 20 = .ok (.iconst 2, 1) := by decide +kernel
theorem dX5_takeRule_21 : decode cX5_takeRule 21 = .ok (.if_icmp .lt 13, 3) := by decide +kernel
theorem dX5_takeRule_24 : decode cX5_takeRule 24 = .ok (.iload_n 2, 1) := by decide +kernel
theorem dX5_takeRule_25 : decode cX5_takeRule 25 = .ok (.bipush 31, 2) := by decide +kernel
theorem dX5_takeRule_27 : decode cX5_takeRule 27 = .ok (.if_icmp .gt 7, 3) := by decide +kernel
theorem dX5_takeRule_30 : decode cX5_takeRule 30 = .ok (.iconst 1, 1) := by decide +kernel
theorem dX5_takeRule_31 : decode cX5_takeRule 31 = .ok (.goto 4, 3) := by decide +kernel
theorem dX5_takeRule_34 : decode cX5_takeRule 34 = .ok (.iconst 0, 1) := by decide +kernel
theorem dX5_takeRule_35 : decode cX5_takeRule 35 = .ok (.invokestatic 42, 3) := by decide +kernel
theorem dX5_takeRule_38 : decode cX5_takeRule 38 = .ok (.aload_n 0, 1) := by decide +kernel
theorem dX5_takeRule_39 : decode cX5_takeRule 39 = .ok (.getfield 24, 3) := by decide +kernel
theorem dX5_takeRule_42 : decode cX5_takeRule 42 = .ok (.iload_n 1, 1) := by decide +kernel
theorem dX5_takeRule_43 : decode cX5_takeRule 43 = .ok (.iload_n 2, 1) := by decide +kernel
theorem dX5_takeRule_44 : decode cX5_takeRule 44 = .ok (.invokevirtual 309, 3) := by decide +kernel
theorem dX5_takeRule_47 : decode cX5_takeRule 47 = .ok (.return_, 1) := by decide +kernel
theorem dX5_isUpOnLine_0 : decode cX5_isUpOnLine 0 = .ok (.iload_n 0, 1) := by decide +kernel
theorem dX5_isUpOnLine_1 : decode cX5_isUpOnLine 1 = .ok (.ifCond .le 20, 3) := by decide +kernel
theorem dX5_isUpOnLine_4 : decode cX5_isUpOnLine 4 = .ok (.iload_n 3, 1) := by decide +kernel
theorem dX5_isUpOnLine_5 : decode cX5_isUpOnLine 5 = .ok (.iload_n 1, 1) := by decide +kernel
theorem dX5_isUpOnLine_6 : decode cX5_isUpOnLine 6 = .ok (.imul, 1) := by decide +kernel
theorem dX5_isUpOnLine_7 : decode cX5_isUpOnLine 7 = .ok (.iload_n 2, 1) := by decide +kernel
theorem dX5_isUpOnLine_8 : decode cX5_isUpOnLine 8 = .ok (.iadd, 1) := by decide +kernel
theorem dX5_isUpOnLine_9 : decode cX5_isUpOnLine 9 = .ok (.iload_n 0, 1) := by decide +kernel
theorem dX5_isUpOnLine_10 : decode cX5_isUpOnLine 10 = .ok (.irem, 1) := by decide +kernel
theorem dX5_isUpOnLine_11 : decode cX5_isUpOnLine 11 = .ok (.iload_n 1, 1) := by decide +kernel
theorem dX5_isUpOnLine_12 : decode cX5_isUpOnLine 12 = .ok (.iadd, 1) := by decide +kernel
theorem dX5_isUpOnLine_13 : decode cX5_isUpOnLine 13 = .ok (.iload_n 0, 1) := by decide +kernel
theorem dX5_isUpOnLine_14 : decode cX5_isUpOnLine 14 = .ok (.if_icmp .lt 7, 3) := by decide +kernel
theorem dX5_isUpOnLine_17 : decode cX5_isUpOnLine 17 = .ok (.iconst 1, 1) := by decide +kernel
theorem dX5_isUpOnLine_18 : decode cX5_isUpOnLine 18 = .ok (.goto 4, 3) := by decide +kernel
theorem dX5_isUpOnLine_21 : decode cX5_isUpOnLine 21 = .ok (.iconst 0, 1) := by decide +kernel
theorem dX5_isUpOnLine_22 : decode cX5_isUpOnLine 22 = .ok (.ireturn, 1) := by decide +kernel
theorem dX5_isSheetSound_0 : decode cX5_isSheetSound 0 = .ok (.aload_n 0, 1) := by decide +kernel
theorem dX5_isSheetSound_1 : decode cX5_isSheetSound 1 = .ok (.iload_n 1, 1) := by decide +kernel
theorem dX5_isSheetSound_2 : decode cX5_isSheetSound 2 = .ok (.invokevirtual 37, 3) := by decide +kernel
theorem dX5_isSheetSound_5 : decode cX5_isSheetSound 5 = .ok (.astore_n 2, 1) := by decide +kernel
theorem dX5_isSheetSound_6 : decode cX5_isSheetSound 6 = .ok (.aload_n 0, 1) := by decide +kernel
theorem dX5_isSheetSound_7 : decode cX5_isSheetSound 7 = .ok (.getfield 29, 3) := by decide +kernel
theorem dX5_isSheetSound_10 : decode cX5_isSheetSound 10 = .ok (.aload_n 2, 1) := by decide +kernel
theorem dX5_isSheetSound_11 : decode cX5_isSheetSound 11 = .ok (.invokevirtual 101, 3) := by decide +kernel
theorem dX5_isSheetSound_14 : decode cX5_isSheetSound 14 = .ok (.aload_n 0, 1) := by decide +kernel
theorem dX5_isSheetSound_15 : decode cX5_isSheetSound 15 = .ok (.getfield 33, 3) := by decide +kernel
theorem dX5_isSheetSound_18 : decode cX5_isSheetSound 18 = .ok (.aload_n 0, 1) := by decide +kernel
theorem dX5_isSheetSound_19 : decode cX5_isSheetSound 19 = .ok (.getfield 29, 3) := by decide +kernel
theorem dX5_isSheetSound_22 : decode cX5_isSheetSound 22 = .ok (.invokevirtual 101, 3) := by decide +kernel
theorem dX5_isSheetSound_25 : decode cX5_isSheetSound 25 = .ok (.aload_n 2, 1) := by decide +kernel
theorem dX5_isSheetSound_26 : decode cX5_isSheetSound 26 = .ok (.getfield 50, 3) := by decide +kernel
theorem dX5_isSheetSound_29 : decode cX5_isSheetSound 29 = .ok (.bipush 64, 2) := by decide +kernel
theorem dX5_isSheetSound_31 : decode cX5_isSheetSound 31 = .ok (.if_icmp .gt 38, 3) := by decide +kernel
theorem dX5_isSheetSound_34 : decode cX5_isSheetSound 34 = .ok (.aload_n 0, 1) := by decide +kernel
theorem dX5_isSheetSound_35 : decode cX5_isSheetSound 35 = .ok (.iload_n 1, 1) := by decide +kernel
theorem dX5_isSheetSound_36 : decode cX5_isSheetSound 36 = .ok (.iconst 0, 1) := by decide +kernel
theorem dX5_isSheetSound_37 : decode cX5_isSheetSound 37 = .ok (.invokevirtual 311, 3) := by decide +kernel
theorem dX5_isSheetSound_40 : decode cX5_isSheetSound 40 = .ok (.aload_n 0, 1) := by decide +kernel
theorem dX5_isSheetSound_41 : decode cX5_isSheetSound 41 = .ok (.iload_n 1, 1) := by decide +kernel
theorem dX5_isSheetSound_42 : decode cX5_isSheetSound 42 = .ok (.iconst 1, 1) := by decide +kernel
theorem dX5_isSheetSound_43 : decode cX5_isSheetSound 43 = .ok (.invokevirtual 311, 3) := by decide +kernel
theorem dX5_isSheetSound_46 : decode cX5_isSheetSound 46 = .ok (.iadd, 1) := by decide +kernel
theorem dX5_isSheetSound_47 : decode cX5_isSheetSound 47 = .ok (.aload_n 2, 1) := by decide +kernel
theorem dX5_isSheetSound_48 : decode cX5_isSheetSound 48 = .ok (.getfield 50, 3) := by decide +kernel
theorem dX5_isSheetSound_51 : decode cX5_isSheetSound 51 = .ok (.if_icmp .ne 18, 3) := by decide +kernel
theorem dX5_isSheetSound_54 : decode cX5_isSheetSound 54 = .ok (.aload_n 2, 1) := by decide +kernel
theorem dX5_isSheetSound_55 : decode cX5_isSheetSound 55 = .ok (.aload_n 0, 1) := by decide +kernel
theorem dX5_isSheetSound_56 : decode cX5_isSheetSound 56 = .ok (.getfield 33, 3) := by decide +kernel
theorem dX5_isSheetSound_59 : decode cX5_isSheetSound 59 = .ok (.invokestatic 195, 3) := by decide +kernel
theorem dX5_isSheetSound_62 : decode cX5_isSheetSound 62 = .ok (.ifCond .ne 7, 3) := by decide +kernel
theorem dX5_isSheetSound_65 : decode cX5_isSheetSound 65 = .ok (.iconst 1, 1) := by decide +kernel
theorem dX5_isSheetSound_66 : decode cX5_isSheetSound 66 = .ok (.goto 4, 3) := by decide +kernel
theorem dX5_isSheetSound_69 : decode cX5_isSheetSound 69 = .ok (.iconst 0, 1) := by decide +kernel
theorem dX5_isSheetSound_70 : decode cX5_isSheetSound 70 = .ok (.ireturn, 1) := by decide +kernel
theorem dX5_isGrowthSound_0 : decode cX5_isGrowthSound 0 = .ok (.aload_n 0, 1) := by decide +kernel
theorem dX5_isGrowthSound_1 : decode cX5_isGrowthSound 1 = .ok (.iload_n 1, 1) := by decide +kernel
theorem dX5_isGrowthSound_2 : decode cX5_isGrowthSound 2 = .ok (.invokevirtual 140, 3) := by decide +kernel
theorem dX5_isGrowthSound_5 : decode cX5_isGrowthSound 5 = .ok (.astore_n 2, 1) := by decide +kernel
theorem dX5_isGrowthSound_6 : decode cX5_isGrowthSound 6 = .ok (.aload_n 2, 1) := by decide +kernel
theorem dX5_isGrowthSound_7 : decode cX5_isGrowthSound 7 = .ok (.getfield 178, 3) := by decide +kernel
theorem dX5_isGrowthSound_10 : decode cX5_isGrowthSound 10 = .ok (.iconst 2, 1) := by decide +kernel
theorem dX5_isGrowthSound_11 : decode cX5_isGrowthSound 11 = .ok (.irem, 1) := by decide +kernel
theorem dX5_isGrowthSound_12 : decode cX5_isGrowthSound 12 = .ok (.ifCond .ne 7, 3) := by decide +kernel
theorem dX5_isGrowthSound_15 : decode cX5_isGrowthSound 15 = .ok (.iconst 1, 1) := by decide +kernel
theorem dX5_isGrowthSound_16 : decode cX5_isGrowthSound 16 = .ok (.goto 4, 3) := by decide +kernel
theorem dX5_isGrowthSound_19 : decode cX5_isGrowthSound 19 = .ok (.iconst (-1), 1) := by decide +kernel
theorem dX5_isGrowthSound_20 : decode cX5_isGrowthSound 20 = .ok (.istore_n 3, 1) := by decide +kernel
theorem dX5_isGrowthSound_21 : decode cX5_isGrowthSound 21 = .ok (.aload_n 2, 1) := by decide +kernel
theorem dX5_isGrowthSound_22 : decode cX5_isGrowthSound 22 = .ok (.getfield 144, 3) := by decide +kernel
theorem dX5_isGrowthSound_25 : decode cX5_isGrowthSound 25 = .ok (.getfield 50, 3) := by decide +kernel
theorem dX5_isGrowthSound_28 : decode cX5_isGrowthSound 28 = .ok (.aload_n 2, 1) := by decide +kernel
theorem dX5_isGrowthSound_29 : decode cX5_isGrowthSound 29 = .ok (.getfield 242, 3) := by decide +kernel
theorem dX5_isGrowthSound_32 : decode cX5_isGrowthSound 32 = .ok (.getfield 50, 3) := by decide +kernel
theorem dX5_isGrowthSound_35 : decode cX5_isGrowthSound 35 = .ok (.iadd, 1) := by decide +kernel
theorem dX5_isGrowthSound_36 : decode cX5_isGrowthSound 36 = .ok (.iconst 2, 1) := by decide +kernel
theorem dX5_isGrowthSound_37 : decode cX5_isGrowthSound 37 = .ok (.isub, 1) := by decide +kernel
theorem dX5_isGrowthSound_38 : decode cX5_isGrowthSound 38 = .ok (.istore 4, 2) := by decide +kernel
theorem dX5_isGrowthSound_40 : decode cX5_isGrowthSound 40 = .ok (.aload_n 2, 1) := by decide +kernel
theorem dX5_isGrowthSound_41 : decode cX5_isGrowthSound 41 = .ok (.aload_n 0, 1) := by decide +kernel
theorem dX5_isGrowthSound_42 : decode cX5_isGrowthSound 42 = .ok (.getfield 33, 3) := by decide +kernel
theorem dX5_isGrowthSound_45 : decode cX5_isGrowthSound 45 = .ok (.aload_n 0, 1) := by decide +kernel
theorem dX5_isGrowthSound_46 : decode cX5_isGrowthSound 46 = .ok (.getfield 29, 3) := by decide +kernel
theorem dX5_isGrowthSound_49 : decode cX5_isGrowthSound 49 = .ok (.aload_n 0, 1) := by decide +kernel
theorem dX5_isGrowthSound_50 : decode cX5_isGrowthSound 50 = .ok (.getfield 24, 3) := by decide +kernel
theorem dX5_isGrowthSound_53 : decode cX5_isGrowthSound 53 = .ok (.invokevirtual 147, 3) := by decide +kernel
theorem dX5_isGrowthSound_56 : decode cX5_isGrowthSound 56 = .ok (.aload_n 2, 1) := by decide +kernel
theorem dX5_isGrowthSound_57 : decode cX5_isGrowthSound 57 = .ok (.getfield 144, 3) := by decide +kernel
theorem dX5_isGrowthSound_60 : decode cX5_isGrowthSound 60 = .ok (.aload_n 0, 1) := by decide +kernel
theorem dX5_isGrowthSound_61 : decode cX5_isGrowthSound 61 = .ok (.getfield 33, 3) := by decide +kernel
theorem dX5_isGrowthSound_64 : decode cX5_isGrowthSound 64 = .ok (.invokestatic 195, 3) := by decide +kernel
theorem dX5_isGrowthSound_67 : decode cX5_isGrowthSound 67 = .ok (.ifCond .ne 7, 3) := by decide +kernel
theorem dX5_isGrowthSound_70 : decode cX5_isGrowthSound 70 = .ok (.iconst 1, 1) := by decide +kernel
theorem dX5_isGrowthSound_71 : decode cX5_isGrowthSound 71 = .ok (.goto 4, 3) := by decide +kernel
theorem dX5_isGrowthSound_74 : decode cX5_isGrowthSound 74 = .ok (.iconst 0, 1) := by decide +kernel
theorem dX5_isGrowthSound_75 : decode cX5_isGrowthSound 75 = .ok (.istore 5, 2) := by decide +kernel
theorem dX5_isGrowthSound_77 : decode cX5_isGrowthSound 77 = .ok (.aload_n 2, 1) := by decide +kernel
theorem dX5_isGrowthSound_78 : decode cX5_isGrowthSound 78 = .ok (.aload_n 0, 1) := by decide +kernel
theorem dX5_isGrowthSound_79 : decode cX5_isGrowthSound 79 = .ok (.getfield 33, 3) := by decide +kernel
theorem dX5_isGrowthSound_82 : decode cX5_isGrowthSound 82 = .ok (.invokevirtual 151, 3) := by decide +kernel
theorem dX5_isGrowthSound_85 : decode cX5_isGrowthSound 85 = .ok (.aload_n 2, 1) := by decide +kernel
theorem dX5_isGrowthSound_86 : decode cX5_isGrowthSound 86 = .ok (.getfield 144, 3) := by decide +kernel
theorem dX5_isGrowthSound_89 : decode cX5_isGrowthSound 89 = .ok (.aload_n 0, 1) := by decide +kernel
theorem dX5_isGrowthSound_90 : decode cX5_isGrowthSound 90 = .ok (.getfield 33, 3) := by decide +kernel
theorem dX5_isGrowthSound_93 : decode cX5_isGrowthSound 93 = .ok (.invokestatic 195, 3) := by decide +kernel
theorem dX5_isGrowthSound_96 : decode cX5_isGrowthSound 96 = .ok (.ifCond .ne 7, 3) := by decide +kernel
theorem dX5_isGrowthSound_99 : decode cX5_isGrowthSound 99 = .ok (.iconst 1, 1) := by decide +kernel
theorem dX5_isGrowthSound_100 : decode cX5_isGrowthSound 100 = .ok (.goto 4, 3) := by decide +kernel
theorem dX5_isGrowthSound_103 : decode cX5_isGrowthSound 103 = .ok (.iconst 0, 1) := by decide +kernel
theorem dX5_isGrowthSound_104 : decode cX5_isGrowthSound 104 = .ok (.istore 6, 2) := by decide +kernel
theorem dX5_isGrowthSound_106 : decode cX5_isGrowthSound 106 = .ok (.iload 5, 2) := by decide +kernel
theorem dX5_isGrowthSound_108 : decode cX5_isGrowthSound 108 = .ok (.ifCond .eq 31, 3) := by decide +kernel
theorem dX5_isGrowthSound_111 : decode cX5_isGrowthSound 111 = .ok (.iload 6, 2) := by decide +kernel
theorem dX5_isGrowthSound_113 : decode cX5_isGrowthSound 113 = .ok (.ifCond .eq 26, 3) := by decide +kernel
theorem dX5_isGrowthSound_116 : decode cX5_isGrowthSound 116 = .ok (.aload_n 0, 1) := by decide +kernel
theorem dX5_isGrowthSound_117 : decode cX5_isGrowthSound 117 = .ok (.iload_n 1, 1) := by decide +kernel
theorem dX5_isGrowthSound_118 : decode cX5_isGrowthSound 118 = .ok (.invokevirtual 315, 3) := by decide +kernel
theorem dX5_isGrowthSound_121 : decode cX5_isGrowthSound 121 = .ok (.iload_n 3, 1) := by decide +kernel
theorem dX5_isGrowthSound_122 : decode cX5_isGrowthSound 122 = .ok (.if_icmp .ne 17, 3) := by decide +kernel
theorem dX5_isGrowthSound_125 : decode cX5_isGrowthSound 125 = .ok (.aload_n 0, 1) := by decide +kernel
theorem dX5_isGrowthSound_126 : decode cX5_isGrowthSound 126 = .ok (.iload_n 1, 1) := by decide +kernel
theorem dX5_isGrowthSound_127 : decode cX5_isGrowthSound 127 = .ok (.invokevirtual 318, 3) := by decide +kernel
theorem dX5_isGrowthSound_130 : decode cX5_isGrowthSound 130 = .ok (.iload 4, 2) := by decide +kernel
theorem dX5_isGrowthSound_132 : decode cX5_isGrowthSound 132 = .ok (.if_icmp .ne 7, 3) := by decide +kernel
theorem dX5_isGrowthSound_135 : decode cX5_isGrowthSound 135 = .ok (.iconst 1, 1) := by decide +kernel
theorem dX5_isGrowthSound_136 : decode cX5_isGrowthSound 136 = .ok (.goto 4, 3) := by decide +kernel
theorem dX5_isGrowthSound_139 : decode cX5_isGrowthSound 139 = .ok (.iconst 0, 1) := by decide +kernel
theorem dX5_isGrowthSound_140 : decode cX5_isGrowthSound 140 = .ok (.ireturn, 1) := by decide +kernel
theorem dX5_digestWith_0 : decode cX5_digestWith 0 = .ok (.lload_n 0, 1) := by decide +kernel
theorem dX5_digestWith_1 : decode cX5_digestWith 1 = .ok (.ldc2_w 321, 3) := by decide +kernel
theorem dX5_digestWith_4 : decode cX5_digestWith 4 = .ok (.lmul, 1) := by decide +kernel
theorem dX5_digestWith_5 : decode cX5_digestWith 5 = .ok (.lload_n 2, 1) := by decide +kernel
theorem dX5_digestWith_6 : decode cX5_digestWith 6 = .ok (.ladd, 1) := by decide +kernel
theorem dX5_digestWith_7 : decode cX5_digestWith 7 = .ok (.lreturn, 1) := by decide +kernel
theorem dX5_digestSheet_0 : decode cX5_digestSheet 0 = .ok (.aload_n 0, 1) := by decide +kernel
theorem dX5_digestSheet_1 : decode cX5_digestSheet 1 = .ok (.iload_n 3, 1) := by decide +kernel
theorem dX5_digestSheet_2 : decode cX5_digestSheet 2 = .ok (.invokevirtual 37, 3) := by decide +kernel
theorem dX5_digestSheet_5 : decode cX5_digestSheet 5 = .ok (.astore 4, 2) := by decide +kernel
theorem dX5_digestSheet_7 : decode cX5_digestSheet 7 = .ok (.lload_n 1, 1) := by decide +kernel
theorem dX5_digestSheet_8 : decode cX5_digestSheet 8 = .ok (.aload 4, 2) := by decide +kernel
theorem dX5_digestSheet_10 : decode cX5_digestSheet 10 = .ok (.getfield 50, 3) := by decide +kernel
theorem dX5_digestSheet_13 : decode cX5_digestSheet 13 = .ok (.i2l, 1) := by decide +kernel
theorem dX5_digestSheet_14 : decode cX5_digestSheet 14 = .ok (.invokestatic 278, 3) := by decide +kernel
theorem dX5_digestSheet_17 : decode cX5_digestSheet 17 = .ok (.lstore 5, 2) := by decide +kernel
theorem dX5_digestSheet_19 : decode cX5_digestSheet 19 = .ok (.iconst 0, 1) := by decide +kernel
theorem dX5_digestSheet_20 : decode cX5_digestSheet 20 = .ok (.istore 7, 2) := by decide +kernel
theorem dX5_digestSheet_22 : decode cX5_digestSheet 22 = .ok (.iload 7, 2) := by decide +kernel
theorem dX5_digestSheet_24 : decode cX5_digestSheet 24 = .ok (.aload 4, 2) := by decide +kernel
theorem dX5_digestSheet_26 : decode cX5_digestSheet 26 = .ok (.getfield 50, 3) := by decide +kernel
theorem dX5_digestSheet_29 : decode cX5_digestSheet 29 = .ok (.if_icmp .ge 33, 3) := by decide +kernel
theorem dX5_digestSheet_32 : decode cX5_digestSheet 32 = .ok (.lload 5, 2) := by decide +kernel
theorem dX5_digestSheet_34 : decode cX5_digestSheet 34 = .ok (.aload 4, 2) := by decide +kernel
theorem dX5_digestSheet_36 : decode cX5_digestSheet 36 = .ok (.iload 7, 2) := by decide +kernel
theorem dX5_digestSheet_38 : decode cX5_digestSheet 38 = .ok (.invokevirtual 71, 3) := by decide +kernel
theorem dX5_digestSheet_41 : decode cX5_digestSheet 41 = .ok (.ifCond .eq 9, 3) := by decide +kernel
theorem dX5_digestSheet_44 : decode cX5_digestSheet 44 = .ok (.ldc2_w 323, 3) := by decide +kernel
theorem dX5_digestSheet_47 : decode cX5_digestSheet 47 = .ok (.goto 4, 3) := by decide +kernel
theorem dX5_digestSheet_50 : decode cX5_digestSheet 50 = .ok (.lconst 1, 1) := by decide +kernel
theorem dX5_digestSheet_51 : decode cX5_digestSheet 51 = .ok (.invokestatic 278, 3) := by decide +kernel
theorem dX5_digestSheet_54 : decode cX5_digestSheet 54 = .ok (.lstore 5, 2) := by decide +kernel
theorem dX5_digestSheet_56 : decode cX5_digestSheet 56 = .ok (.iinc 7 1, 3) := by decide +kernel
theorem dX5_digestSheet_59 : decode cX5_digestSheet 59 = .ok (.goto (-37), 3) := by decide +kernel
theorem dX5_digestSheet_62 : decode cX5_digestSheet 62 = .ok (.lload 5, 2) := by decide +kernel
theorem dX5_digestSheet_64 : decode cX5_digestSheet 64 = .ok (.aload_n 0, 1) := by decide +kernel
theorem dX5_digestSheet_65 : decode cX5_digestSheet 65 = .ok (.iload_n 3, 1) := by decide +kernel
theorem dX5_digestSheet_66 : decode cX5_digestSheet 66 = .ok (.iconst 1, 1) := by decide +kernel
theorem dX5_digestSheet_67 : decode cX5_digestSheet 67 = .ok (.invokevirtual 311, 3) := by decide +kernel
theorem dX5_digestSheet_70 : decode cX5_digestSheet 70 = .ok (.i2l, 1) := by decide +kernel
theorem dX5_digestSheet_71 : decode cX5_digestSheet 71 = .ok (.invokestatic 278, 3) := by decide +kernel
theorem dX5_digestSheet_74 : decode cX5_digestSheet 74 = .ok (.lstore 5, 2) := by decide +kernel
theorem dX5_digestSheet_76 : decode cX5_digestSheet 76 = .ok (.lload 5, 2) := by decide +kernel
theorem dX5_digestSheet_78 : decode cX5_digestSheet 78 = .ok (.aload_n 0, 1) := by decide +kernel
theorem dX5_digestSheet_79 : decode cX5_digestSheet 79 = .ok (.iload_n 3, 1) := by decide +kernel
theorem dX5_digestSheet_80 : decode cX5_digestSheet 80 = .ok (.invokevirtual 325, 3) := by decide +kernel
theorem dX5_digestSheet_83 : decode cX5_digestSheet 83 = .ok (.invokestatic 79, 3) := by decide +kernel
theorem dX5_digestSheet_86 : decode cX5_digestSheet 86 = .ok (.i2l, 1) := by decide +kernel
theorem dX5_digestSheet_87 : decode cX5_digestSheet 87 = .ok (.invokestatic 278, 3) := by decide +kernel
theorem dX5_digestSheet_90 : decode cX5_digestSheet 90 = .ok (.lstore 5, 2) := by decide +kernel
theorem dX5_digestSheet_92 : decode cX5_digestSheet 92 = .ok (.lload 5, 2) := by decide +kernel
theorem dX5_digestSheet_94 : decode cX5_digestSheet 94 = .ok (.aload_n 0, 1) := by decide +kernel
theorem dX5_digestSheet_95 : decode cX5_digestSheet 95 = .ok (.iload_n 3, 1) := by decide +kernel
theorem dX5_digestSheet_96 : decode cX5_digestSheet 96 = .ok (.invokevirtual 328, 3) := by decide +kernel
theorem dX5_digestSheet_99 : decode cX5_digestSheet 99 = .ok (.i2l, 1) := by decide +kernel
theorem dX5_digestSheet_100 : decode cX5_digestSheet 100 = .ok (.invokestatic 278, 3) := by decide +kernel
theorem dX5_digestSheet_103 : decode cX5_digestSheet 103 = .ok (.lstore 5, 2) := by decide +kernel
theorem dX5_digestSheet_105 : decode cX5_digestSheet 105 = .ok (.lload 5, 2) := by decide +kernel
theorem dX5_digestSheet_107 : decode cX5_digestSheet 107 = .ok (.aload_n 0, 1) := by decide +kernel
theorem dX5_digestSheet_108 : decode cX5_digestSheet 108 = .ok (.iload_n 3, 1) := by decide +kernel
theorem dX5_digestSheet_109 : decode cX5_digestSheet 109 = .ok (.invokevirtual 331, 3) := by decide +kernel
theorem dX5_digestSheet_112 : decode cX5_digestSheet 112 = .ok (.i2l, 1) := by decide +kernel
theorem dX5_digestSheet_113 : decode cX5_digestSheet 113 = .ok (.invokestatic 278, 3) := by decide +kernel
theorem dX5_digestSheet_116 : decode cX5_digestSheet 116 = .ok (.lstore 5, 2) := by decide +kernel
theorem dX5_digestSheet_118 : decode cX5_digestSheet 118 = .ok (.lload 5, 2) := by decide +kernel
theorem dX5_digestSheet_120 : decode cX5_digestSheet 120 = .ok (.aload_n 0, 1) := by decide +kernel
theorem dX5_digestSheet_121 : decode cX5_digestSheet 121 = .ok (.iload_n 3, 1) := by decide +kernel
theorem dX5_digestSheet_122 : decode cX5_digestSheet 122 = .ok (.invokevirtual 334, 3) := by decide +kernel
theorem dX5_digestSheet_125 : decode cX5_digestSheet 125 = .ok (.i2l, 1) := by decide +kernel
theorem dX5_digestSheet_126 : decode cX5_digestSheet 126 = .ok (.invokestatic 278, 3) := by decide +kernel
theorem dX5_digestSheet_129 : decode cX5_digestSheet 129 = .ok (.lstore 5, 2) := by decide +kernel
theorem dX5_digestSheet_131 : decode cX5_digestSheet 131 = .ok (.lload 5, 2) := by decide +kernel
theorem dX5_digestSheet_133 : decode cX5_digestSheet 133 = .ok (.aload_n 0, 1) := by decide +kernel
theorem dX5_digestSheet_134 : decode cX5_digestSheet 134 = .ok (.iload_n 3, 1) := by decide +kernel
theorem dX5_digestSheet_135 : decode cX5_digestSheet 135 = .ok (.invokevirtual 337, 3) := by decide +kernel
theorem dX5_digestSheet_138 : decode cX5_digestSheet 138 = .ok (.i2l, 1) := by decide +kernel
theorem dX5_digestSheet_139 : decode cX5_digestSheet 139 = .ok (.invokestatic 278, 3) := by decide +kernel
theorem dX5_digestSheet_142 : decode cX5_digestSheet 142 = .ok (.lreturn, 1) := by decide +kernel
theorem dX5_digestGrowth_0 : decode cX5_digestGrowth 0 = .ok (.aload_n 0, 1) := by decide +kernel
theorem dX5_digestGrowth_1 : decode cX5_digestGrowth 1 = .ok (.iload_n 3, 1) := by decide +kernel
theorem dX5_digestGrowth_2 : decode cX5_digestGrowth 2 = .ok (.invokevirtual 140, 3) := by decide +kernel
theorem dX5_digestGrowth_5 : decode cX5_digestGrowth 5 = .ok (.astore 4, 2) := by decide +kernel
theorem dX5_digestGrowth_7 : decode cX5_digestGrowth 7 = .ok (.lload_n 1, 1) := by decide +kernel
theorem dX5_digestGrowth_8 : decode cX5_digestGrowth 8 = .ok (.aload 4, 2) := by decide +kernel
theorem dX5_digestGrowth_10 : decode cX5_digestGrowth 10 = .ok (.getfield 178, 3) := by decide +kernel
theorem dX5_digestGrowth_13 : decode cX5_digestGrowth 13 = .ok (.i2l, 1) := by decide +kernel
theorem dX5_digestGrowth_14 : decode cX5_digestGrowth 14 = .ok (.invokestatic 278, 3) := by decide +kernel
theorem dX5_digestGrowth_17 : decode cX5_digestGrowth 17 = .ok (.lstore 5, 2) := by decide +kernel
theorem dX5_digestGrowth_19 : decode cX5_digestGrowth 19 = .ok (.iconst 0, 1) := by decide +kernel
theorem dX5_digestGrowth_20 : decode cX5_digestGrowth 20 = .ok (.istore 7, 2) := by decide +kernel
theorem dX5_digestGrowth_22 : decode cX5_digestGrowth 22 = .ok (.iload 7, 2) := by decide +kernel
theorem dX5_digestGrowth_24 : decode cX5_digestGrowth 24 = .ok (.aload 4, 2) := by decide +kernel
theorem dX5_digestGrowth_26 : decode cX5_digestGrowth 26 = .ok (.getfield 178, 3) := by decide +kernel
theorem dX5_digestGrowth_29 : decode cX5_digestGrowth 29 = .ok (.if_icmp .ge 24, 3) := by decide +kernel
theorem dX5_digestGrowth_32 : decode cX5_digestGrowth 32 = .ok (.lload 5, 2) := by decide +kernel
theorem dX5_digestGrowth_34 : decode cX5_digestGrowth 34 = .ok (.aload 4, 2) := by decide +kernel
theorem dX5_digestGrowth_36 : decode cX5_digestGrowth 36 = .ok (.iload 7, 2) := by decide +kernel
theorem dX5_digestGrowth_38 : decode cX5_digestGrowth 38 = .ok (.invokevirtual 227, 3) := by decide +kernel
theorem dX5_digestGrowth_41 : decode cX5_digestGrowth 41 = .ok (.i2l, 1) := by decide +kernel
theorem dX5_digestGrowth_42 : decode cX5_digestGrowth 42 = .ok (.invokestatic 278, 3) := by decide +kernel
theorem dX5_digestGrowth_45 : decode cX5_digestGrowth 45 = .ok (.lstore 5, 2) := by decide +kernel
theorem dX5_digestGrowth_47 : decode cX5_digestGrowth 47 = .ok (.iinc 7 1, 3) := by decide +kernel
theorem dX5_digestGrowth_50 : decode cX5_digestGrowth 50 = .ok (.goto (-28), 3) := by decide +kernel
theorem dX5_digestGrowth_53 : decode cX5_digestGrowth 53 = .ok (.lload 5, 2) := by decide +kernel
theorem dX5_digestGrowth_55 : decode cX5_digestGrowth 55 = .ok (.aload_n 0, 1) := by decide +kernel
theorem dX5_digestGrowth_56 : decode cX5_digestGrowth 56 = .ok (.iload_n 3, 1) := by decide +kernel
theorem dX5_digestGrowth_57 : decode cX5_digestGrowth 57 = .ok (.iconst 0, 1) := by decide +kernel
theorem dX5_digestGrowth_58 : decode cX5_digestGrowth 58 = .ok (.invokevirtual 340, 3) := by decide +kernel
theorem dX5_digestGrowth_61 : decode cX5_digestGrowth 61 = .ok (.i2l, 1) := by decide +kernel
theorem dX5_digestGrowth_62 : decode cX5_digestGrowth 62 = .ok (.invokestatic 278, 3) := by decide +kernel
theorem dX5_digestGrowth_65 : decode cX5_digestGrowth 65 = .ok (.lstore 5, 2) := by decide +kernel
theorem dX5_digestGrowth_67 : decode cX5_digestGrowth 67 = .ok (.lload 5, 2) := by decide +kernel
theorem dX5_digestGrowth_69 : decode cX5_digestGrowth 69 = .ok (.aload_n 0, 1) := by decide +kernel
theorem dX5_digestGrowth_70 : decode cX5_digestGrowth 70 = .ok (.iload_n 3, 1) := by decide +kernel
theorem dX5_digestGrowth_71 : decode cX5_digestGrowth 71 = .ok (.iconst 1, 1) := by decide +kernel
theorem dX5_digestGrowth_72 : decode cX5_digestGrowth 72 = .ok (.invokevirtual 340, 3) := by decide +kernel
theorem dX5_digestGrowth_75 : decode cX5_digestGrowth 75 = .ok (.i2l, 1) := by decide +kernel
theorem dX5_digestGrowth_76 : decode cX5_digestGrowth 76 = .ok (.invokestatic 278, 3) := by decide +kernel
theorem dX5_digestGrowth_79 : decode cX5_digestGrowth 79 = .ok (.lstore 5, 2) := by decide +kernel
theorem dX5_digestGrowth_81 : decode cX5_digestGrowth 81 = .ok (.lload 5, 2) := by decide +kernel
theorem dX5_digestGrowth_83 : decode cX5_digestGrowth 83 = .ok (.aload_n 0, 1) := by decide +kernel
theorem dX5_digestGrowth_84 : decode cX5_digestGrowth 84 = .ok (.iload_n 3, 1) := by decide +kernel
theorem dX5_digestGrowth_85 : decode cX5_digestGrowth 85 = .ok (.iconst 0, 1) := by decide +kernel
theorem dX5_digestGrowth_86 : decode cX5_digestGrowth 86 = .ok (.invokevirtual 343, 3) := by decide +kernel
theorem dX5_digestGrowth_89 : decode cX5_digestGrowth 89 = .ok (.i2l, 1) := by decide +kernel
theorem dX5_digestGrowth_90 : decode cX5_digestGrowth 90 = .ok (.invokestatic 278, 3) := by decide +kernel
theorem dX5_digestGrowth_93 : decode cX5_digestGrowth 93 = .ok (.lstore 5, 2) := by decide +kernel
theorem dX5_digestGrowth_95 : decode cX5_digestGrowth 95 = .ok (.lload 5, 2) := by decide +kernel
theorem dX5_digestGrowth_97 : decode cX5_digestGrowth 97 = .ok (.aload_n 0, 1) := by decide +kernel
theorem dX5_digestGrowth_98 : decode cX5_digestGrowth 98 = .ok (.iload_n 3, 1) := by decide +kernel
theorem dX5_digestGrowth_99 : decode cX5_digestGrowth 99 = .ok (.iconst 1, 1) := by decide +kernel
theorem dX5_digestGrowth_100 : decode cX5_digestGrowth 100 = .ok (.invokevirtual 343, 3) := by decide +kernel
theorem dX5_digestGrowth_103 : decode cX5_digestGrowth 103 = .ok (.i2l, 1) := by decide +kernel
theorem dX5_digestGrowth_104 : decode cX5_digestGrowth 104 = .ok (.invokestatic 278, 3) := by decide +kernel
theorem dX5_digestGrowth_107 : decode cX5_digestGrowth 107 = .ok (.lstore 5, 2) := by decide +kernel
theorem dX5_digestGrowth_109 : decode cX5_digestGrowth 109 = .ok (.lload 5, 2) := by decide +kernel
theorem dX5_digestGrowth_111 : decode cX5_digestGrowth 111 = .ok (.aload_n 0, 1) := by decide +kernel
theorem dX5_digestGrowth_112 : decode cX5_digestGrowth 112 = .ok (.iload_n 3, 1) := by decide +kernel
theorem dX5_digestGrowth_113 : decode cX5_digestGrowth 113 = .ok (.invokevirtual 315, 3) := by decide +kernel
theorem dX5_digestGrowth_116 : decode cX5_digestGrowth 116 = .ok (.i2l, 1) := by decide +kernel
theorem dX5_digestGrowth_117 : decode cX5_digestGrowth 117 = .ok (.invokestatic 278, 3) := by decide +kernel
theorem dX5_digestGrowth_120 : decode cX5_digestGrowth 120 = .ok (.lstore 5, 2) := by decide +kernel
theorem dX5_digestGrowth_122 : decode cX5_digestGrowth 122 = .ok (.lload 5, 2) := by decide +kernel
theorem dX5_digestGrowth_124 : decode cX5_digestGrowth 124 = .ok (.aload_n 0, 1) := by decide +kernel
theorem dX5_digestGrowth_125 : decode cX5_digestGrowth 125 = .ok (.iload_n 3, 1) := by decide +kernel
theorem dX5_digestGrowth_126 : decode cX5_digestGrowth 126 = .ok (.invokevirtual 318, 3) := by decide +kernel
theorem dX5_digestGrowth_129 : decode cX5_digestGrowth 129 = .ok (.i2l, 1) := by decide +kernel
theorem dX5_digestGrowth_130 : decode cX5_digestGrowth 130 = .ok (.invokestatic 278, 3) := by decide +kernel
theorem dX5_digestGrowth_133 : decode cX5_digestGrowth 133 = .ok (.lreturn, 1) := by decide +kernel
theorem dX6_init_0 : decode cX6_init 0 = .ok (.aload_n 0, 1) := by decide +kernel
theorem dX6_init_1 : decode cX6_init 1 = .ok (.invokespecial 1, 3) := by decide +kernel
theorem dX6_init_4 : decode cX6_init 4 = .ok (.return_, 1) := by decide +kernel
theorem dX7_init_0 : decode cX7_init 0 = .ok (.aload_n 0, 1) := by decide +kernel
theorem dX7_init_1 : decode cX7_init 1 = .ok (.invokespecial 1, 3) := by decide +kernel
theorem dX7_init_4 : decode cX7_init 4 = .ok (.aload_n 0, 1) := by decide +kernel
theorem dX7_init_5 : decode cX7_init 5 = .ok (.iconst 3, 1) := by decide +kernel
theorem dX7_init_6 : decode cX7_init 6 = .ok (.anewarray 7, 3) := by decide +kernel
theorem dX7_init_9 : decode cX7_init 9 = .ok (.dup, 1) := by decide +kernel
theorem dX7_init_10 : decode cX7_init 10 = .ok (.iconst 0, 1) := by decide +kernel
theorem dX7_init_11 : decode cX7_init 11 = .ok (.iconst 0, 1) := by decide +kernel
theorem dX7_init_12 : decode cX7_init 12 = .ok (.newarray .int, 2) := by decide +kernel
theorem dX7_init_14 : decode cX7_init 14 = .ok (.aastore, 1) := by decide +kernel
theorem dX7_init_15 : decode cX7_init 15 = .ok (.dup, 1) := by decide +kernel
theorem dX7_init_16 : decode cX7_init 16 = .ok (.iconst 1, 1) := by decide +kernel
theorem dX7_init_17 : decode cX7_init 17 = .ok (.iconst 0, 1) := by decide +kernel
theorem dX7_init_18 : decode cX7_init 18 = .ok (.newarray .int, 2) := by decide +kernel
theorem dX7_init_20 : decode cX7_init 20 = .ok (.aastore, 1) := by decide +kernel
theorem dX7_init_21 : decode cX7_init 21 = .ok (.dup, 1) := by decide +kernel
theorem dX7_init_22 : decode cX7_init 22 = .ok (.iconst 2, 1) := by decide +kernel
theorem dX7_init_23 : decode cX7_init 23 = .ok (.iconst 0, 1) := by decide +kernel
theorem dX7_init_24 : decode cX7_init 24 = .ok (.newarray .int, 2) := by decide +kernel
theorem dX7_init_26 : decode cX7_init 26 = .ok (.aastore, 1) := by decide +kernel
theorem dX7_init_27 : decode cX7_init 27 = .ok (.putfield 9, 3) := by decide +kernel
theorem dX7_init_30 : decode cX7_init 30 = .ok (.aload_n 0, 1) := by decide +kernel
theorem dX7_init_31 : decode cX7_init 31 = .ok (.iconst 2, 1) := by decide +kernel
theorem dX7_init_32 : decode cX7_init 32 = .ok (.anewarray 7, 3) := by decide +kernel
theorem dX7_init_35 : decode cX7_init 35 = .ok (.dup, 1) := by decide +kernel
theorem dX7_init_36 : decode cX7_init 36 = .ok (.iconst 0, 1) := by decide +kernel
theorem dX7_init_37 : decode cX7_init 37 = .ok (.bipush 64, 2) := by decide +kernel
theorem dX7_init_39 : decode cX7_init 39 = .ok (.newarray .int, 2) := by decide +kernel
theorem dX7_init_41 : decode cX7_init 41 = .ok (.aastore, 1) := by decide +kernel
theorem dX7_init_42 : decode cX7_init 42 = .ok (.dup, 1) := by decide +kernel
theorem dX7_init_43 : decode cX7_init 43 = .ok (.iconst 1, 1) := by decide +kernel
theorem dX7_init_44 : decode cX7_init 44 = .ok (.bipush 64, 2) := by decide +kernel
theorem dX7_init_46 : decode cX7_init 46 = .ok (.newarray .int, 2) := by decide +kernel
theorem dX7_init_48 : decode cX7_init 48 = .ok (.aastore, 1) := by decide +kernel
theorem dX7_init_49 : decode cX7_init 49 = .ok (.putfield 15, 3) := by decide +kernel
theorem dX7_init_52 : decode cX7_init 52 = .ok (.aload_n 0, 1) := by decide +kernel
theorem dX7_init_53 : decode cX7_init 53 = .ok (.iconst 2, 1) := by decide +kernel
theorem dX7_init_54 : decode cX7_init 54 = .ok (.newarray .int, 2) := by decide +kernel
theorem dX7_init_56 : decode cX7_init 56 = .ok (.putfield 18, 3) := by decide +kernel
theorem dX7_init_59 : decode cX7_init 59 = .ok (.return_, 1) := by decide +kernel
theorem dX7_thrown_0 : decode cX7_thrown 0 = .ok (.aload_n 0, 1) := by decide +kernel
theorem dX7_thrown_1 : decode cX7_thrown 1 = .ok (.getfield 21, 3) := by decide +kernel
theorem dX7_thrown_4 : decode cX7_thrown 4 = .ok (.ireturn, 1) := by decide +kernel
theorem dX7_isIn_0 : decode cX7_isIn 0 = .ok (.iload_n 0, 1) := by decide +kernel
theorem dX7_isIn_1 : decode cX7_isIn 1 = .ok (.iload_n 1, 1) := by decide +kernel
theorem dX7_isIn_2 : decode cX7_isIn 2 = .ok (.if_icmp .lt 12, 3) := by decide +kernel
theorem dX7_isIn_5 : decode cX7_isIn 5 = .ok (.iload_n 0, 1) := by decide +kernel
theorem dX7_isIn_6 : decode cX7_isIn 6 = .ok (.iload_n 2, 1) := by decide +kernel
theorem dX7_isIn_7 : decode cX7_isIn 7 = .ok (.if_icmp .gt 7, 3) := by decide +kernel
theorem dX7_isIn_10 : decode cX7_isIn 10 = .ok (.iconst 1, 1) := by decide +kernel
theorem dX7_isIn_11 : decode cX7_isIn 11 = .ok (.goto 4, 3) := by decide +kernel
theorem dX7_isIn_14 : decode cX7_isIn 14 = .ok (.iconst 0, 1) := by decide +kernel
theorem dX7_isIn_15 : decode cX7_isIn 15 = .ok (.ireturn, 1) := by decide +kernel
theorem dX7_refuse_0 : decode cX7_refuse 0 = .ok (.iload_n 1, 1) := by decide +kernel
theorem dX7_refuse_1 : decode cX7_refuse 1 = .ok (.ifCond .eq 15, 3) := by decide +kernel
theorem dX7_refuse_4 : decode cX7_refuse 4 = .ok (.aload_n 0, 1) := by decide +kernel
theorem dX7_refuse_5 : decode cX7_refuse 5 = .ok (.getfield 21, 3) := by decide +kernel
theorem dX7_refuse_8 : decode cX7_refuse 8 = .ok (.ifCond .ne 8, 3) := by decide +kernel
theorem dX7_refuse_11 : decode cX7_refuse 11 = .ok (.aload_n 0, 1) := by decide +kernel
theorem dX7_refuse_12 : decode cX7_refuse 12 = .ok (.iload_n 2, 1) := by decide +kernel
theorem dX7_refuse_13 : decode cX7_refuse 13 = .ok (.putfield 21, 3) := by decide +kernel
theorem dX7_refuse_16 : decode cX7_refuse 16 = .ok (.aload_n 0, 1) := by decide +kernel
theorem dX7_refuse_17 : decode cX7_refuse 17 = .ok (.getfield 21, 3) := by decide +kernel
theorem dX7_refuse_20 : decode cX7_refuse 20 = .ok (.ifCond .le 7, 3) := by decide +kernel
theorem dX7_refuse_23 : decode cX7_refuse 23 = .ok (.iconst 1, 1) := by decide +kernel
theorem dX7_refuse_24 : decode cX7_refuse 24 = .ok (.goto 4, 3) := by decide +kernel
theorem dX7_refuse_27 : decode cX7_refuse 27 = .ok (.iconst 0, 1) := by decide +kernel
theorem dX7_refuse_28 : decode cX7_refuse 28 = .ok (.ireturn, 1) := by decide +kernel
theorem dX7_start_0 : decode cX7_start 0 = .ok (.aload_n 0, 1) := by decide +kernel
theorem dX7_start_1 : decode cX7_start 1 = .ok (.iconst 0, 1) := by decide +kernel
theorem dX7_start_2 : decode cX7_start 2 = .ok (.putfield 21, 3) := by decide +kernel
theorem dX7_start_5 : decode cX7_start 5 = .ok (.aload_n 0, 1) := by decide +kernel
theorem dX7_start_6 : decode cX7_start 6 = .ok (.iload_n 1, 1) := by decide +kernel
theorem dX7_start_7 : decode cX7_start 7 = .ok (.iload_n 2, 1) := by decide +kernel
theorem dX7_start_8 : decode cX7_start 8 = .ok (.invokevirtual 25, 3) := by decide +kernel
theorem dX7_start_11 : decode cX7_start 11 = .ok (.ireturn, 1) := by decide +kernel
theorem dX7_isNoSheet_0 : decode cX7_isNoSheet 0 = .ok (.iload_n 0, 1) := by decide +kernel
theorem dX7_isNoSheet_1 : decode cX7_isNoSheet 1 = .ok (.iconst 0, 1) := by decide +kernel
theorem dX7_isNoSheet_2 : decode cX7_isNoSheet 2 = .ok (.iconst 2, 1) := by decide +kernel
theorem dX7_isNoSheet_3 : decode cX7_isNoSheet 3 = .ok (.invokestatic 29, 3) := by decide +kernel
theorem dX7_isNoSheet_6 : decode cX7_isNoSheet 6 = .ok (.ifCond .ne 7, 3) := by decide +kernel
theorem dX7_isNoSheet_9 : decode cX7_isNoSheet 9 = .ok (.iconst 1, 1) := by decide +kernel
theorem dX7_isNoSheet_10 : decode cX7_isNoSheet 10 = .ok (.goto 4, 3) := by decide +kernel
theorem dX7_isNoSheet_13 : decode cX7_isNoSheet 13 = .ok (.iconst 0, 1) := by decide +kernel
theorem dX7_isNoSheet_14 : decode cX7_isNoSheet 14 = .ok (.ireturn, 1) := by decide +kernel
theorem dX7_isNoGrowth_0 : decode cX7_isNoGrowth 0 = .ok (.iload_n 0, 1) := by decide +kernel
theorem dX7_isNoGrowth_1 : decode cX7_isNoGrowth 1 = .ok (.iconst 0, 1) := by decide +kernel
theorem dX7_isNoGrowth_2 : decode cX7_isNoGrowth 2 = .ok (.iconst 1, 1) := by decide +kernel
theorem dX7_isNoGrowth_3 : decode cX7_isNoGrowth 3 = .ok (.invokestatic 29, 3) := by decide +kernel
theorem dX7_isNoGrowth_6 : decode cX7_isNoGrowth 6 = .ok (.ifCond .ne 7, 3) := by decide +kernel
theorem dX7_isNoGrowth_9 : decode cX7_isNoGrowth 9 = .ok (.iconst 1, 1) := by decide +kernel
theorem dX7_isNoGrowth_10 : decode cX7_isNoGrowth 10 = .ok (.goto 4, 3) := by decide +kernel
theorem dX7_isNoGrowth_13 : decode cX7_isNoGrowth 13 = .ok (.iconst 0, 1) := by decide +kernel
theorem dX7_isNoGrowth_14 : decode cX7_isNoGrowth 14 = .ok (.ireturn, 1) := by decide +kernel
theorem dX7_isNoGap_0 : decode cX7_isNoGap 0 = .ok (.iload_n 1, 1) := by decide +kernel
theorem dX7_isNoGap_1 : decode cX7_isNoGap 1 = .ok (.invokestatic 33, 3) := by decide +kernel
theorem dX7_isNoGap_4 : decode cX7_isNoGap 4 = .ok (.ifCond .ne 18, 3) := by decide +kernel
theorem dX7_isNoGap_7 : decode cX7_isNoGap 7 = .ok (.iload_n 2, 1) := by decide +kernel
theorem dX7_isNoGap_8 : decode cX7_isNoGap 8 = .ok (.iconst 0, 1) := by decide +kernel
theorem dX7_isNoGap_9 : decode cX7_isNoGap 9 = .ok (.aload_n 0, 1) := by decide +kernel
theorem dX7_isNoGap_10 : decode cX7_isNoGap 10 = .ok (.getfield 9, 3) := by decide +kernel
theorem dX7_isNoGap_13 : decode cX7_isNoGap 13 = .ok (.iload_n 1, 1) := by decide +kernel
theorem dX7_isNoGap_14 : decode cX7_isNoGap 14 = .ok (.aaload, 1) := by decide +kernel
theorem dX7_isNoGap_15 : decode cX7_isNoGap 15 = .ok (.arraylength, 1) := by decide +kernel
theorem dX7_isNoGap_16 : decode cX7_isNoGap 16 = .ok (.invokestatic 29, 3) := by decide +kernel
theorem dX7_isNoGap_19 : decode cX7_isNoGap 19 = .ok (.ifCond .ne 7, 3) := by decide +kernel
theorem dX7_isNoGap_22 : decode cX7_isNoGap 22 = .ok (.iconst 1, 1) := by decide +kernel
theorem dX7_isNoGap_23 : decode cX7_isNoGap 23 = .ok (.goto 4, 3) := by decide +kernel
theorem dX7_isNoGap_26 : decode cX7_isNoGap 26 = .ok (.iconst 0, 1) := by decide +kernel
theorem dX7_isNoGap_27 : decode cX7_isNoGap 27 = .ok (.ireturn, 1) := by decide +kernel
theorem dX7_isNoPlace_0 : decode cX7_isNoPlace 0 = .ok (.iload_n 1, 1) := by decide +kernel
theorem dX7_isNoPlace_1 : decode cX7_isNoPlace 1 = .ok (.invokestatic 33, 3) := by decide +kernel
theorem dX7_isNoPlace_4 : decode cX7_isNoPlace 4 = .ok (.ifCond .ne 20, 3) := by decide +kernel
theorem dX7_isNoPlace_7 : decode cX7_isNoPlace 7 = .ok (.iload_n 2, 1) := by decide +kernel
theorem dX7_isNoPlace_8 : decode cX7_isNoPlace 8 = .ok (.iconst 0, 1) := by decide +kernel
theorem dX7_isNoPlace_9 : decode cX7_isNoPlace 9 = .ok (.aload_n 0, 1) := by decide +kernel
theorem dX7_isNoPlace_10 : decode cX7_isNoPlace 10 = .ok (.getfield 9, 3) := by decide +kernel
theorem dX7_isNoPlace_13 : decode cX7_isNoPlace 13 = .ok (.iload_n 1, 1) := by decide +kernel
theorem dX7_isNoPlace_14 : decode cX7_isNoPlace 14 = .ok (.aaload, 1) := by decide +kernel
theorem dX7_isNoPlace_15 : decode cX7_isNoPlace 15 = .ok (.arraylength, 1) := by decide +kernel
theorem dX7_isNoPlace_16 : decode cX7_isNoPlace 16 = .ok (.iconst 1, 1) := by decide +kernel
theorem dX7_isNoPlace_17 : decode cX7_isNoPlace 17 = .ok (.isub, 1) := by decide +kernel
theorem dX7_isNoPlace_18 : decode cX7_isNoPlace 18 = .ok (.invokestatic 29, 3) := by decide +kernel
theorem dX7_isNoPlace_21 : decode cX7_isNoPlace 21 = .ok (.ifCond .ne 7, 3) := by decide +kernel
theorem dX7_isNoPlace_24 : decode cX7_isNoPlace 24 = .ok (.iconst 1, 1) := by decide +kernel
theorem dX7_isNoPlace_25 : decode cX7_isNoPlace 25 = .ok (.goto 4, 3) := by decide +kernel
theorem dX7_isNoPlace_28 : decode cX7_isNoPlace 28 = .ok (.iconst 0, 1) := by decide +kernel
theorem dX7_isNoPlace_29 : decode cX7_isNoPlace 29 = .ok (.ireturn, 1) := by decide +kernel
theorem dX7_isNoPart_0 : decode cX7_isNoPart 0 = .ok (.iload_n 1, 1) := by decide +kernel
theorem dX7_isNoPart_1 : decode cX7_isNoPart 1 = .ok (.invokestatic 33, 3) := by decide +kernel
theorem dX7_isNoPart_4 : decode cX7_isNoPart 4 = .ok (.ifCond .ne 23, 3) := by decide +kernel
theorem dX7_isNoPart_7 : decode cX7_isNoPart 7 = .ok (.iload_n 2, 1) := by decide +kernel
theorem dX7_isNoPart_8 : decode cX7_isNoPart 8 = .ok (.ifCond .lt 19, 3) := by decide +kernel
theorem dX7_isNoPart_11 : decode cX7_isNoPart 11 = .ok (.iload_n 2, 1) := by decide +kernel
theorem dX7_isNoPart_12 : decode cX7_isNoPart 12 = .ok (.iload_n 3, 1) := by decide +kernel
theorem dX7_isNoPart_13 : decode cX7_isNoPart 13 = .ok (.if_icmp .gt 14, 3) := by decide +kernel
theorem dX7_isNoPart_16 : decode cX7_isNoPart 16 = .ok (.iload_n 3, 1) := by decide +kernel
theorem dX7_isNoPart_17 : decode cX7_isNoPart 17 = .ok (.aload_n 0, 1) := by decide +kernel
theorem dX7_isNoPart_18 : decode cX7_isNoPart 18 = .ok (.getfield 9, 3) := by decide +kernel
theorem dX7_isNoPart_21 : decode cX7_isNoPart 21 = .ok (.iload_n 1, 1) := by decide +kernel
theorem dX7_isNoPart_22 : decode cX7_isNoPart 22 = .ok (.aaload, 1) := by decide +kernel
theorem dX7_isNoPart_23 : decode cX7_isNoPart 23 = .ok (.arraylength, 1) := by decide +kernel
theorem dX7_isNoPart_24 : decode cX7_isNoPart 24 = .ok (.if_icmp .le 7, 3) := by decide +kernel
theorem dX7_isNoPart_27 : decode cX7_isNoPart 27 = .ok (.iconst 1, 1) := by decide +kernel
theorem dX7_isNoPart_28 : decode cX7_isNoPart 28 = .ok (.goto 4, 3) := by decide +kernel
theorem dX7_isNoPart_31 : decode cX7_isNoPart 31 = .ok (.iconst 0, 1) := by decide +kernel
theorem dX7_isNoPart_32 : decode cX7_isNoPart 32 = .ok (.ireturn, 1) := by decide +kernel
theorem dX7_one_0 : decode cX7_one 0 = .ok (.iload_n 0, 1) := by decide +kernel
theorem dX7_one_1 : decode cX7_one 1 = .ok (.ifCond .eq 7, 3) := by decide +kernel
theorem dX7_one_4 : decode cX7_one 4 = .ok (.iconst 1, 1) := by decide +kernel
theorem dX7_one_5 : decode cX7_one 5 = .ok (.goto 4, 3) := by decide +kernel
theorem dX7_one_8 : decode cX7_one 8 = .ok (.iconst 0, 1) := by decide +kernel
theorem dX7_one_9 : decode cX7_one 9 = .ok (.ireturn, 1) := by decide +kernel
theorem dX7_areSame_0 : decode cX7_areSame 0 = .ok (.aload_n 0, 1) := by decide +kernel
theorem dX7_areSame_1 : decode cX7_areSame 1 = .ok (.arraylength, 1) := by decide +kernel
theorem dX7_areSame_2 : decode cX7_areSame 2 = .ok (.aload_n 1, 1) := by decide +kernel
theorem dX7_areSame_3 : decode cX7_areSame 3 = .ok (.arraylength, 1) := by decide +kernel
theorem dX7_areSame_4 : decode cX7_areSame 4 = .ok (.if_icmp .ne 16, 3) := by decide +kernel
theorem dX7_areSame_7 : decode cX7_areSame 7 = .ok (.aload_n 0, 1) := by decide +kernel
theorem dX7_areSame_8 : decode cX7_areSame 8 = .ok (.aload_n 1, 1) := by decide +kernel
theorem dX7_areSame_9 : decode cX7_areSame 9 = .ok (.iconst 0, 1) := by decide +kernel
theorem dX7_areSame_10 : decode cX7_areSame 10 = .ok (.invokestatic 37, 3) := by decide +kernel
theorem dX7_areSame_13 : decode cX7_areSame 13 = .ok (.ifCond .eq 7, 3) := by decide +kernel
theorem dX7_areSame_16 : decode cX7_areSame 16 = .ok (.iconst 1, 1) := by decide +kernel
theorem dX7_areSame_17 : decode cX7_areSame 17 = .ok (.goto 4, 3) := by decide +kernel
theorem dX7_areSame_20 : decode cX7_areSame 20 = .ok (.iconst 0, 1) := by decide +kernel
theorem dX7_areSame_21 : decode cX7_areSame 21 = .ok (.ireturn, 1) := by decide +kernel
theorem dX7_standsAt_0 : decode cX7_standsAt 0 = .ok (.iload_n 2, 1) := by decide +kernel
theorem dX7_standsAt_1 : decode cX7_standsAt 1 = .ok (.aload_n 1, 1) := by decide +kernel
theorem dX7_standsAt_2 : decode cX7_standsAt 2 = .ok (.arraylength, 1) := by decide +kernel
theorem dX7_standsAt_3 : decode cX7_standsAt 3 = .ok (.iadd, 1) := by decide +kernel
theorem dX7_standsAt_4 : decode cX7_standsAt 4 = .ok (.aload_n 0, 1) := by decide +kernel
theorem dX7_standsAt_5 : decode cX7_standsAt 5 = .ok (.arraylength, 1) := by decide +kernel
theorem dX7_standsAt_6 : decode cX7_standsAt 6 = .ok (.if_icmp .le 5, 3) := by decide +kernel
theorem dX7_standsAt_9 : decode cX7_standsAt 9 = .ok (.iconst 0, 1) := by decide +kernel
theorem dX7_standsAt_10 : decode cX7_standsAt 10 = .ok (.ireturn, 1) := by decide +kernel
theorem dX7_standsAt_11 : decode cX7_standsAt 11 = .ok (.iconst 0, 1) := by decide +kernel
theorem dX7_standsAt_12 : decode cX7_standsAt 12 = .ok (.istore_n 3, 1) := by decide +kernel
theorem dX7_standsAt_13 : decode cX7_standsAt 13 = .ok (.iload_n 3, 1) := by decide +kernel
theorem dX7_standsAt_14 : decode cX7_standsAt 14 = .ok (.aload_n 1, 1) := by decide +kernel
theorem dX7_standsAt_15 : decode cX7_standsAt 15 = .ok (.arraylength, 1) := by decide +kernel
theorem dX7_standsAt_16 : decode cX7_standsAt 16 = .ok (.if_icmp .ge 22, 3) := by decide +kernel
theorem dX7_standsAt_19 : decode cX7_standsAt 19 = .ok (.aload_n 0, 1) := by decide +kernel
theorem dX7_standsAt_20 : decode cX7_standsAt 20 = .ok (.iload_n 2, 1) := by decide +kernel
theorem dX7_standsAt_21 : decode cX7_standsAt 21 = .ok (.iload_n 3, 1) := by decide +kernel
theorem dX7_standsAt_22 : decode cX7_standsAt 22 = .ok (.iadd, 1) := by decide +kernel
theorem dX7_standsAt_23 : decode cX7_standsAt 23 = .ok (.iaload, 1) := by decide +kernel
theorem dX7_standsAt_24 : decode cX7_standsAt 24 = .ok (.aload_n 1, 1) := by decide +kernel
theorem dX7_standsAt_25 : decode cX7_standsAt 25 = .ok (.iload_n 3, 1) := by decide +kernel
theorem dX7_standsAt_26 : decode cX7_standsAt 26 = .ok (.iaload, 1) := by decide +kernel
theorem dX7_standsAt_27 : decode cX7_standsAt 27 = .ok (.if_icmp .eq 5, 3) := by decide +kernel
theorem dX7_standsAt_30 : decode cX7_standsAt 30 = .ok (.iconst 0, 1) := by decide +kernel
theorem dX7_standsAt_31 : decode cX7_standsAt 31 = .ok (.ireturn, 1) := by decide +kernel
theorem dX7_standsAt_32 : decode cX7_standsAt 32 = .ok (.iinc 3 1, 3) := by decide +kernel
theorem dX7_standsAt_35 : decode cX7_standsAt 35 = .ok (.goto (-22), 3) := by decide +kernel
theorem dX7_standsAt_38 : decode cX7_standsAt 38 = .ok (.iconst 1, 1) := by decide +kernel
theorem dX7_standsAt_39 : decode cX7_standsAt 39 = .ok (.ireturn, 1) := by decide +kernel
theorem dX7_bs_0 : decode cX7_bs 0 = .ok (.iconst 0, 1) := by decide +kernel
theorem dX7_bs_1 : decode cX7_bs 1 = .ok (.istore_n 1, 1) := by decide +kernel
theorem dX7_bs_2 : decode cX7_bs 2 = .ok (.aload_n 0, 1) := by decide +kernel
theorem dX7_bs_3 : decode cX7_bs 3 = .ok (.astore_n 2, 1) := by decide +kernel
theorem dX7_bs_4 : decode cX7_bs 4 = .ok (.aload_n 2, 1) := by decide +kernel
theorem dX7_bs_5 : decode cX7_bs 5 = .ok (.arraylength, 1) := by decide +kernel
theorem dX7_bs_6 : decode cX7_bs 6 = .ok (.istore_n 3, 1) := by decide +kernel
theorem dX7_bs_7 : decode cX7_bs 7 = .ok (.iconst 0, 1) := by decide +kernel
theorem dX7_bs_8 : decode cX7_bs 8 = .ok (.istore 4, 2) := by decide +kernel
theorem dX7_bs_10 : decode cX7_bs 10 = .ok (.iload 4, 2) := by decide +kernel
theorem dX7_bs_12 : decode cX7_bs 12 = .ok (.iload_n 3, 1) := by decide +kernel
theorem dX7_bs_13 : decode cX7_bs 13 = .ok (.if_icmp .ge 20, 3) := by decide +kernel
theorem dX7_bs_16 : decode cX7_bs 16 = .ok (.aload_n 2, 1) := by decide +kernel
theorem dX7_bs_17 : decode cX7_bs 17 = .ok (.iload 4, 2) := by decide +kernel
theorem dX7_bs_19 : decode cX7_bs 19 = .ok (.iaload, 1) := by decide +kernel
theorem dX7_bs_20 : decode cX7_bs 20 = .ok (.istore 5, 2) := by decide +kernel
theorem dX7_bs_22 : decode cX7_bs 22 = .ok (.iload_n 1, 1) := by decide +kernel
theorem dX7_bs_23 : decode cX7_bs 23 = .ok (.iload 5, 2) := by decide +kernel
theorem dX7_bs_25 : decode cX7_bs 25 = .ok (.iadd, 1) := by decide +kernel
theorem dX7_bs_26 : decode cX7_bs 26 = .ok (.istore_n 1, 1) := by decide +kernel
theorem dX7_bs_27 : decode cX7_bs 27 = .ok (.iinc 4 1, 3) := by decide +kernel
theorem dX7_bs_30 : decode cX7_bs 30 = .ok (.goto (-20), 3) := by decide +kernel
theorem dX7_bs_33 : decode cX7_bs 33 = .ok (.iload_n 1, 1) := by decide +kernel
theorem dX7_bs_34 : decode cX7_bs 34 = .ok (.ireturn, 1) := by decide +kernel
theorem dX7_spliced_0 : decode cX7_spliced 0 = .ok (.aload_n 0, 1) := by decide +kernel
theorem dX7_spliced_1 : decode cX7_spliced 1 = .ok (.arraylength, 1) := by decide +kernel
theorem dX7_spliced_2 : decode cX7_spliced 2 = .ok (.iload_n 2, 1) := by decide +kernel
theorem dX7_spliced_3 : decode cX7_spliced 3 = .ok (.iload_n 1, 1) := by decide +kernel
theorem dX7_spliced_4 : decode cX7_spliced 4 = .ok (.isub, 1) := by decide +kernel
theorem dX7_spliced_5 : decode cX7_spliced 5 = .ok (.isub, 1) := by decide +kernel
theorem dX7_spliced_6 : decode cX7_spliced 6 = .ok (.aload_n 3, 1) := by decide +kernel
theorem dX7_spliced_7 : decode cX7_spliced 7 = .ok (.arraylength, 1) := by decide +kernel
theorem dX7_spliced_8 : decode cX7_spliced 8 = .ok (.iadd, 1) := by decide +kernel
theorem dX7_spliced_9 : decode cX7_spliced 9 = .ok (.newarray .int, 2) := by decide +kernel
theorem dX7_spliced_11 : decode cX7_spliced 11 = .ok (.astore 4, 2) := by decide +kernel
theorem dX7_spliced_13 : decode cX7_spliced 13 = .ok (.iconst 0, 1) := by decide +kernel
theorem dX7_spliced_14 : decode cX7_spliced 14 = .ok (.istore 5, 2) := by decide +kernel
theorem dX7_spliced_16 : decode cX7_spliced 16 = .ok (.iload 5, 2) := by decide +kernel
theorem dX7_spliced_18 : decode cX7_spliced 18 = .ok (.aload 4, 2) := by decide +kernel
theorem dX7_spliced_20 : decode cX7_spliced 20 = .ok (.arraylength, 1) := by decide +kernel
theorem dX7_spliced_21 : decode cX7_spliced 21 = .ok (.if_icmp .ge 56, 3) := by decide +kernel
theorem dX7_spliced_24 : decode cX7_spliced 24 = .ok (.aload 4, 2) := by decide +kernel
theorem dX7_spliced_26 : decode cX7_spliced 26 = .ok (.iload 5, 2) := by decide +kernel
theorem dX7_spliced_28 : decode cX7_spliced 28 = .ok (.iload 5, 2) := by decide +kernel
theorem dX7_spliced_30 : decode cX7_spliced 30 = .ok (.iload_n 1, 1) := by decide +kernel
theorem dX7_spliced_31 : decode cX7_spliced 31 = .ok (.if_icmp .ge 10, 3) := by decide +kernel
theorem dX7_spliced_34 : decode cX7_spliced 34 = .ok (.aload_n 0, 1) := by decide +kernel
theorem dX7_spliced_35 : decode cX7_spliced 35 = .ok (.iload 5, 2) := by decide +kernel
theorem dX7_spliced_37 : decode cX7_spliced 37 = .ok (.iaload, 1) := by decide +kernel
theorem dX7_spliced_38 : decode cX7_spliced 38 = .ok (.goto 32, 3) := by decide +kernel
theorem dX7_spliced_41 : decode cX7_spliced 41 = .ok (.iload 5, 2) := by decide +kernel
theorem dX7_spliced_43 : decode cX7_spliced 43 = .ok (.iload_n 1, 1) := by decide +kernel
theorem dX7_spliced_44 : decode cX7_spliced 44 = .ok (.aload_n 3, 1) := by decide +kernel
theorem dX7_spliced_45 : decode cX7_spliced 45 = .ok (.arraylength, 1) := by decide +kernel
theorem dX7_spliced_46 : decode cX7_spliced 46 = .ok (.iadd, 1) := by decide +kernel
theorem dX7_spliced_47 : decode cX7_spliced 47 = .ok (.if_icmp .ge 12, 3) := by decide +kernel
theorem dX7_spliced_50 : decode cX7_spliced 50 = .ok (.aload_n 3, 1) := by decide +kernel
theorem dX7_spliced_51 : decode cX7_spliced 51 = .ok (.iload 5, 2) := by decide +kernel
theorem dX7_spliced_53 : decode cX7_spliced 53 = .ok (.iload_n 1, 1) := by decide +kernel
theorem dX7_spliced_54 : decode cX7_spliced 54 = .ok (.isub, 1) := by decide +kernel
theorem dX7_spliced_55 : decode cX7_spliced 55 = .ok (.iaload, 1) := by decide +kernel
theorem dX7_spliced_56 : decode cX7_spliced 56 = .ok (.goto 14, 3) := by decide +kernel
theorem dX7_spliced_59 : decode cX7_spliced 59 = .ok (.aload_n 0, 1) := by decide +kernel
theorem dX7_spliced_60 : decode cX7_spliced 60 = .ok (.iload 5, 2) := by decide +kernel
theorem dX7_spliced_62 : decode cX7_spliced 62 = .ok (.aload_n 3, 1) := by decide +kernel
theorem dX7_spliced_63 : decode cX7_spliced 63 = .ok (.arraylength, 1) := by decide +kernel
theorem dX7_spliced_64 : decode cX7_spliced 64 = .ok (.isub, 1) := by decide +kernel
theorem dX7_spliced_65 : decode cX7_spliced 65 = .ok (.iload_n 2, 1) := by decide +kernel
theorem dX7_spliced_66 : decode cX7_spliced 66 = .ok (.iadd, 1) := by decide +kernel
theorem dX7_spliced_67 : decode cX7_spliced 67 = .ok (.iload_n 1, 1) := by decide +kernel
theorem dX7_spliced_68 : decode cX7_spliced 68 = .ok (.isub, 1) := by decide +kernel
theorem dX7_spliced_69 : decode cX7_spliced 69 = .ok (.iaload, 1) := by decide +kernel
theorem dX7_spliced_70 : decode cX7_spliced 70 = .ok (.iastore, 1) := by decide +kernel
theorem dX7_spliced_71 : decode cX7_spliced 71 = .ok (.iinc 5 1, 3) := by decide +kernel
theorem dX7_spliced_74 : decode cX7_spliced 74 = .ok (.goto (-58), 3) := by decide +kernel
theorem dX7_spliced_77 : decode cX7_spliced 77 = .ok (.aload 4, 2) := by decide +kernel
theorem dX7_spliced_79 : decode cX7_spliced 79 = .ok (.areturn, 1) := by decide +kernel
theorem dX7_ofCode_0 : decode cX7_ofCode 0 = .ok (.iconst 0, 1) := by decide +kernel
theorem dX7_ofCode_1 : decode cX7_ofCode 1 = .ok (.istore_n 1, 1) := by decide +kernel
theorem dX7_ofCode_2 : decode cX7_ofCode 2 = .ok (.iload_n 0, 1) := by decide +kernel
theorem dX7_ofCode_3 : decode cX7_ofCode 3 = .ok (.iload_n 1, 1) := by decide +kernel
theorem dX7_ofCode_4 : decode cX7_ofCode 4 = .ok (.ishr, 1) := by decide +kernel
theorem dX7_ofCode_5 : decode cX7_ofCode 5 = .ok (.iconst 1, 1) := by decide +kernel
theorem dX7_ofCode_6 : decode cX7_ofCode 6 = .ok (.if_icmp .le 9, 3) := by decide +kernel
theorem dX7_ofCode_9 : decode cX7_ofCode 9 = .ok (.iinc 1 1, 3) := by decide +kernel
theorem dX7_ofCode_12 : decode cX7_ofCode 12 = .ok (.goto (-10), 3) := by decide +kernel
theorem dX7_ofCode_15 : decode cX7_ofCode 15 = .ok (.iload_n 1, 1) := by decide +kernel
theorem dX7_ofCode_16 : decode cX7_ofCode 16 = .ok (.newarray .int, 2) := by decide +kernel
theorem dX7_ofCode_18 : decode cX7_ofCode 18 = .ok (.astore_n 2, 1) := by decide +kernel
theorem dX7_ofCode_19 : decode cX7_ofCode 19 = .ok (.iconst 0, 1) := by decide +kernel
theorem dX7_ofCode_20 : decode cX7_ofCode 20 = .ok (.istore_n 3, 1) := by decide +kernel
theorem dX7_ofCode_21 : decode cX7_ofCode 21 = .ok (.iload_n 3, 1) := by decide +kernel
theorem dX7_ofCode_22 : decode cX7_ofCode 22 = .ok (.iload_n 1, 1) := by decide +kernel
theorem dX7_ofCode_23 : decode cX7_ofCode 23 = .ok (.if_icmp .ge 21, 3) := by decide +kernel
theorem dX7_ofCode_26 : decode cX7_ofCode 26 = .ok (.aload_n 2, 1) := by decide +kernel
theorem dX7_ofCode_27 : decode cX7_ofCode 27 = .ok (.iload_n 3, 1) := by decide +kernel
theorem dX7_ofCode_28 : decode cX7_ofCode 28 = .ok (.iload_n 0, 1) := by decide +kernel
theorem dX7_ofCode_29 : decode cX7_ofCode 29 = .ok (.iload_n 1, 1) := by decide +kernel
theorem dX7_ofCode_30 : decode cX7_ofCode 30 = .ok (.iconst 1, 1) := by decide +kernel
theorem dX7_ofCode_31 : decode cX7_ofCode 31 = .ok (.isub, 1) := by decide +kernel
theorem dX7_ofCode_32 : decode cX7_ofCode 32 = .ok (.iload_n 3, 1) := by decide +kernel
theorem dX7_ofCode_33 : decode cX7_ofCode 33 = .ok (.isub, 1) := by decide +kernel
theorem dX7_ofCode_34 : decode cX7_ofCode 34 = .ok (.ishr, 1) := by decide +kernel
theorem dX7_ofCode_35 : decode cX7_ofCode 35 = .ok (.iconst 1, 1) := by decide +kernel
theorem dX7_ofCode_36 : decode cX7_ofCode 36 = .ok (.iand, 1) := by decide +kernel
theorem dX7_ofCode_37 : decode cX7_ofCode 37 = .ok (.iastore, 1) := by decide +kernel
theorem dX7_ofCode_38 : decode cX7_ofCode 38 = .ok (.iinc 3 1, 3) := by decide +kernel
theorem dX7_ofCode_41 : decode cX7_ofCode 41 = .ok (.goto (-20), 3) := by decide +kernel
theorem dX7_ofCode_44 : decode cX7_ofCode 44 = .ok (.aload_n 2, 1) := by decide +kernel
theorem dX7_ofCode_45 : decode cX7_ofCode 45 = .ok (.areturn, 1) := by decide +kernel
theorem dX7_turned_0 : decode cX7_turned 0 = .ok (.aload_n 0, 1) := by decide +kernel
theorem dX7_turned_1 : decode cX7_turned 1 = .ok (.arraylength, 1) := by decide +kernel
theorem dX7_turned_2 : decode cX7_turned 2 = .ok (.newarray .int, 2) := by decide +kernel
theorem dX7_turned_4 : decode cX7_turned 4 = .ok (.astore_n 1, 1) := by decide +kernel
theorem dX7_turned_5 : decode cX7_turned 5 = .ok (.iconst 0, 1) := by decide +kernel
theorem dX7_turned_6 : decode cX7_turned 6 = .ok (.istore_n 2, 1) := by decide +kernel
theorem dX7_turned_7 : decode cX7_turned 7 = .ok (.iload_n 2, 1) := by decide +kernel
theorem dX7_turned_8 : decode cX7_turned 8 = .ok (.aload_n 0, 1) := by decide +kernel
theorem dX7_turned_9 : decode cX7_turned 9 = .ok (.arraylength, 1) := by decide +kernel
theorem dX7_turned_10 : decode cX7_turned 10 = .ok (.if_icmp .ge 20, 3) := by decide +kernel
theorem dX7_turned_13 : decode cX7_turned 13 = .ok (.aload_n 1, 1) := by decide +kernel
theorem dX7_turned_14 : decode cX7_turned 14 = .ok (.iload_n 2, 1) := by decide +kernel
theorem dX7_turned_15 : decode cX7_turned 15 = .ok (.aload_n 0, 1) := by decide +kernel
theorem dX7_turned_16 : decode cX7_turned 16 = .ok (.aload_n 0, 1) := by decide +kernel
theorem dX7_turned_17 : decode cX7_turned 17 = .ok (.arraylength, 1) := by decide +kernel
theorem dX7_turned_18 : decode cX7_turned 18 = .ok (.iconst 1, 1) := by decide +kernel
theorem dX7_turned_19 : decode cX7_turned 19 = .ok (.isub, 1) := by decide +kernel
theorem dX7_turned_20 : decode cX7_turned 20 = .ok (.iload_n 2, 1) := by decide +kernel
theorem dX7_turned_21 : decode cX7_turned 21 = .ok (.isub, 1) := by decide +kernel
theorem dX7_turned_22 : decode cX7_turned 22 = .ok (.iaload, 1) := by decide +kernel
theorem dX7_turned_23 : decode cX7_turned 23 = .ok (.iastore, 1) := by decide +kernel
theorem dX7_turned_24 : decode cX7_turned 24 = .ok (.iinc 2 1, 3) := by decide +kernel
theorem dX7_turned_27 : decode cX7_turned 27 = .ok (.goto (-20), 3) := by decide +kernel
theorem dX7_turned_30 : decode cX7_turned 30 = .ok (.aload_n 1, 1) := by decide +kernel
theorem dX7_turned_31 : decode cX7_turned 31 = .ok (.areturn, 1) := by decide +kernel
theorem dX7_image_0 : decode cX7_image 0 = .ok (.aload_n 0, 1) := by decide +kernel
theorem dX7_image_1 : decode cX7_image 1 = .ok (.arraylength, 1) := by decide +kernel
theorem dX7_image_2 : decode cX7_image 2 = .ok (.aload_n 0, 1) := by decide +kernel
theorem dX7_image_3 : decode cX7_image 3 = .ok (.invokestatic 41, 3) := by decide +kernel
theorem dX7_image_6 : decode cX7_image 6 = .ok (.isub, 1) := by decide +kernel
theorem dX7_image_7 : decode cX7_image 7 = .ok (.aload_n 1, 1) := by decide +kernel
theorem dX7_image_8 : decode cX7_image 8 = .ok (.arraylength, 1) := by decide +kernel
theorem dX7_image_9 : decode cX7_image 9 = .ok (.imul, 1) := by decide +kernel
theorem dX7_image_10 : decode cX7_image 10 = .ok (.aload_n 0, 1) := by decide +kernel
theorem dX7_image_11 : decode cX7_image 11 = .ok (.invokestatic 41, 3) := by decide +kernel
theorem dX7_image_14 : decode cX7_image 14 = .ok (.aload_n 2, 1) := by decide +kernel
theorem dX7_image_15 : decode cX7_image 15 = .ok (.arraylength, 1) := by decide +kernel
theorem dX7_image_16 : decode cX7_image 16 = .ok (.imul, 1) := by decide +kernel
theorem dX7_image_17 : decode cX7_image 17 = .ok (.iadd, 1) := by decide +kernel
theorem dX7_image_18 : decode cX7_image 18 = .ok (.istore_n 3, 1) := by decide +kernel
theorem dX7_image_19 : decode cX7_image 19 = .ok (.iload_n 3, 1) := by decide +kernel
theorem dX7_image_20 : decode cX7_image 20 = .ok (.newarray .int, 2) := by decide +kernel
theorem dX7_image_22 : decode cX7_image 22 = .ok (.astore 4, 2) := by decide +kernel
theorem dX7_image_24 : decode cX7_image 24 = .ok (.iconst 0, 1) := by decide +kernel
theorem dX7_image_25 : decode cX7_image 25 = .ok (.istore 5, 2) := by decide +kernel
theorem dX7_image_27 : decode cX7_image 27 = .ok (.aload_n 0, 1) := by decide +kernel
theorem dX7_image_28 : decode cX7_image 28 = .ok (.astore 6, 2) := by decide +kernel
theorem dX7_image_30 : decode cX7_image 30 = .ok (.aload 6, 2) := by decide +kernel
theorem dX7_image_32 : decode cX7_image 32 = .ok (.arraylength, 1) := by decide +kernel
theorem dX7_image_33 : decode cX7_image 33 = .ok (.istore 7, 2) := by decide +kernel
theorem dX7_image_35 : decode cX7_image 35 = .ok (.iconst 0, 1) := by decide +kernel
theorem dX7_image_36 : decode cX7_image 36 = .ok (.istore 8, 2) := by decide +kernel
theorem dX7_image_38 : decode cX7_image 38 = .ok (.iload 8, 2) := by decide +kernel
theorem dX7_image_40 : decode cX7_image 40 = .ok (.iload 7, 2) := by decide +kernel
theorem dX7_image_42 : decode cX7_image 42 = .ok (.if_icmp .ge 66, 3) := by decide +kernel
theorem dX7_image_45 : decode cX7_image 45 = .ok (.aload 6, 2) := by decide +kernel
theorem dX7_image_47 : decode cX7_image 47 = .ok (.iload 8, 2) := by decide +kernel
theorem dX7_image_49 : decode cX7_image 49 = .ok (.iaload, 1) := by decide +kernel
theorem dX7_image_50 : decode cX7_image 50 = .ok (.istore 9, 2) := by decide +kernel
theorem dX7_image_52 : decode cX7_image 52 = .ok (.iload 9, 2) := by decide +kernel
theorem dX7_image_54 : decode cX7_image 54 = .ok (.ifCond .ne 7, 3) := by decide +kernel
theorem dX7_image_57 : decode cX7_image 57 = .ok (.aload_n 1, 1) := by decide +kernel
theorem dX7_image_58 : decode cX7_image 58 = .ok (.goto 4, 3) := by decide +kernel
theorem dX7_image_61 : decode cX7_image 61 = .ok (.aload_n 2, 1) := by decide +kernel
theorem dX7_image_62 : decode cX7_image 62 = .ok (.astore 10, 2) := by decide +kernel
theorem dX7_image_64 : decode cX7_image 64 = .ok (.aload 10, 2) := by decide +kernel
theorem dX7_image_66 : decode cX7_image 66 = .ok (.arraylength, 1) := by decide +kernel
theorem dX7_image_67 : decode cX7_image 67 = .ok (.istore 11, 2) := by decide +kernel
theorem dX7_image_69 : decode cX7_image 69 = .ok (.iconst 0, 1) := by decide +kernel
theorem dX7_image_70 : decode cX7_image 70 = .ok (.istore 12, 2) := by decide +kernel
theorem dX7_image_72 : decode cX7_image 72 = .ok (.iload 12, 2) := by decide +kernel
theorem dX7_image_74 : decode cX7_image 74 = .ok (.iload 11, 2) := by decide +kernel
theorem dX7_image_76 : decode cX7_image 76 = .ok (.if_icmp .ge 26, 3) := by decide +kernel
theorem dX7_image_79 : decode cX7_image 79 = .ok (.aload 10, 2) := by decide +kernel
theorem dX7_image_81 : decode cX7_image 81 = .ok (.iload 12, 2) := by decide +kernel
theorem dX7_image_83 : decode cX7_image 83 = .ok (.iaload, 1) := by decide +kernel
theorem dX7_image_84 : decode cX7_image 84 = .ok (.istore 13, 2) := by decide +kernel
theorem dX7_image_86 : decode cX7_image 86 = .ok (.aload 4, 2) := by decide +kernel
theorem dX7_image_88 : decode cX7_image 88 = .ok (.iload 5, 2) := by decide +kernel
theorem dX7_image_90 : decode cX7_image 90 = .ok (.iinc 5 1, 3) := by decide +kernel
theorem dX7_image_93 : decode cX7_image 93 = .ok (.iload 13, 2) := by decide +kernel
theorem dX7_image_95 : decode cX7_image 95 = .ok (.iastore, 1) := by decide +kernel
theorem dX7_image_96 : decode cX7_image 96 = .ok (.iinc 12 1, 3) := by decide +kernel
theorem dX7_image_99 : decode cX7_image 99 = .ok (.goto (-27), 3) := by decide +kernel
theorem dX7_image_102 : decode cX7_image 102 = .ok (.iinc 8 1, 3) := by decide +kernel
theorem dX7_image_105 : decode cX7_image 105 = .ok (.goto (-67), 3) := by decide +kernel
theorem dX7_image_108 : decode cX7_image 108 = .ok (.aload 4, 2) := by decide +kernel
theorem dX7_image_110 : decode cX7_image 110 = .ok (.areturn, 1) := by decide +kernel
theorem dX7_isMirrored_0 : decode cX7_isMirrored 0 = .ok (.iconst 0, 1) := by decide +kernel
theorem dX7_isMirrored_1 : decode cX7_isMirrored 1 = .ok (.istore_n 3, 1) := by decide +kernel
theorem dX7_isMirrored_2 : decode cX7_isMirrored 2 = .ok (.iload_n 3, 1) := by decide +kernel
theorem dX7_isMirrored_3 : decode cX7_isMirrored 3 = .ok (.iload_n 2, 1) := by decide +kernel
theorem dX7_isMirrored_4 : decode cX7_isMirrored 4 = .ok (.iload_n 1, 1) := by decide +kernel
theorem dX7_isMirrored_5 : decode cX7_isMirrored 5 = .ok (.isub, 1) := by decide +kernel
theorem dX7_isMirrored_6 : decode cX7_isMirrored 6 = .ok (.if_icmp .ge 26, 3) := by decide +kernel
theorem dX7_isMirrored_9 : decode cX7_isMirrored 9 = .ok (.aload_n 0, 1) := by decide +kernel
theorem dX7_isMirrored_10 : decode cX7_isMirrored 10 = .ok (.iload_n 1, 1) := by decide +kernel
theorem dX7_isMirrored_11 : decode cX7_isMirrored 11 = .ok (.iload_n 3, 1) := by decide +kernel
theorem dX7_isMirrored_12 : decode cX7_isMirrored 12 = .ok (.iadd, 1) := by decide +kernel
theorem dX7_isMirrored_13 : decode cX7_isMirrored 13 = .ok (.iaload, 1) := by decide +kernel
theorem dX7_isMirrored_14 : decode cX7_isMirrored 14 = .ok (.aload_n 0, 1) := by decide +kernel
theorem dX7_isMirrored_15 : decode cX7_isMirrored 15 = .ok (.iload_n 2, 1) := by decide +kernel
theorem dX7_isMirrored_16 : decode cX7_isMirrored 16 = .ok (.iconst 1, 1) := by decide +kernel
theorem dX7_isMirrored_17 : decode cX7_isMirrored 17 = .ok (.isub, 1) := by decide +kernel
theorem dX7_isMirrored_18 : decode cX7_isMirrored 18 = .ok (.iload_n 3, 1) := by decide +kernel
theorem dX7_isMirrored_19 : decode cX7_isMirrored 19 = .ok (.isub, 1) := by decide +kernel
theorem dX7_isMirrored_20 : decode cX7_isMirrored 20 = .ok (.iaload, 1) := by decide +kernel
theorem dX7_isMirrored_21 : decode cX7_isMirrored 21 = .ok (.if_icmp .eq 5, 3) := by decide +kernel
theorem dX7_isMirrored_24 : decode cX7_isMirrored 24 = .ok (.iconst 0, 1) := by decide +kernel
theorem dX7_isMirrored_25 : decode cX7_isMirrored 25 = .ok (.ireturn, 1) := by decide +kernel
theorem dX7_isMirrored_26 : decode cX7_isMirrored 26 = .ok (.iinc 3 1, 3) := by decide +kernel
theorem dX7_isMirrored_29 : decode cX7_isMirrored 29 = .ok (.goto (-27), 3) := by decide +kernel
theorem dX7_isMirrored_32 : decode cX7_isMirrored 32 = .ok (.iconst 1, 1) := by decide +kernel
theorem dX7_isMirrored_33 : decode cX7_isMirrored 33 = .ok (.ireturn, 1) := by decide +kernel
theorem dX7_comes_0 : decode cX7_comes 0 = .ok (.aload_n 0, 1) := by decide +kernel
theorem dX7_comes_1 : decode cX7_comes 1 = .ok (.getfield 9, 3) := by decide +kernel
theorem dX7_comes_4 : decode cX7_comes 4 = .ok (.iload_n 1, 1) := by decide +kernel
theorem dX7_comes_5 : decode cX7_comes 5 = .ok (.aload_n 2, 1) := by decide +kernel
theorem dX7_comes_6 : decode cX7_comes 6 = .ok (.aastore, 1) := by decide +kernel
theorem dX7_comes_7 : decode cX7_comes 7 = .ok (.aload_n 0, 1) := by decide +kernel
theorem dX7_comes_8 : decode cX7_comes 8 = .ok (.dup, 1) := by decide +kernel
theorem dX7_comes_9 : decode cX7_comes 9 = .ok (.getfield 45, 3) := by decide +kernel
theorem dX7_comes_12 : decode cX7_comes 12 = .ok (.iconst 1, 1) := by decide +kernel
theorem dX7_comes_13 : decode cX7_comes 13 = .ok (.iadd, 1) := by decide +kernel
theorem dX7_comes_14 : decode cX7_comes 14 = .ok (.putfield 45, 3) := by decide +kernel
theorem dX7_comes_17 : decode cX7_comes 17 = .ok (.aload_n 2, 1) := by decide +kernel
theorem dX7_comes_18 : decode cX7_comes 18 = .ok (.arraylength, 1) := by decide +kernel
theorem dX7_comes_19 : decode cX7_comes 19 = .ok (.ireturn, 1) := by decide +kernel
theorem dX7_cannot_0 : decode cX7_cannot 0 = .ok (.aload_n 0, 1) := by decide +kernel
theorem dX7_cannot_1 : decode cX7_cannot 1 = .ok (.dup, 1) := by decide +kernel
theorem dX7_cannot_2 : decode cX7_cannot 2 = .ok (.getfield 48, 3) := by decide +kernel
theorem dX7_cannot_5 : decode cX7_cannot 5 = .ok (.iconst 1, 1) := by decide +kernel
theorem dX7_cannot_6 : decode cX7_cannot 6 = .ok (.iadd, 1) := by decide +kernel
theorem dX7_cannot_7 : decode cX7_cannot 7 = .ok (.putfield 48, 3) := by decide +kernel
theorem dX7_cannot_10 : decode cX7_cannot 10 = .ok (.bipush (-9), 2) := by decide +kernel
theorem dX7_cannot_12 : decode cX7_cannot 12 = .ok (.ireturn, 1) := by decide +kernel
theorem dX7_write_0 : decode cX7_write 0 = .ok (.aload_n 0, 1) := by decide +kernel
theorem dX7_write_1 : decode cX7_write 1 = .ok (.iload_n 1, 1) := by decide +kernel
theorem dX7_write_2 : decode cX7_write 2 = .ok (.invokestatic 33, 3) := by decide +kernel
theorem dX7_write_5 : decode cX7_write 5 = .ok (.iconst 1, 1) := by decide +kernel
theorem dX7_write_6 : decode cX7_write 6 = .ok (.invokevirtual 51, 3) := by decide +kernel
theorem dX7_write_9 : decode cX7_write 9 = .ok (.ifCond .ne 26, 3) := by decide +kernel
theorem dX7_write_12 : decode cX7_write 12 = .ok (.aload_n 0, 1) := by decide +kernel
theorem dX7_write_13 : decode cX7_write 13 = .ok (.iload_n 2, 1) := by decide +kernel
theorem dX7_write_14 : decode cX7_write 14 = .ok (.iconst 1, 1) := by decide +kernel
theorem dX7_write_15 : decode cX7_write 15 = .ok (.ldc 54, 2) := by decide +kernel
theorem dX7_write_17 : decode cX7_write 17 = .ok (.invokestatic 29, 3) := by decide +kernel
theorem dX7_write_20 : decode cX7_write 20 = .ok (.ifCond .ne 7, 3) := by decide +kernel
theorem dX7_write_23 : decode cX7_write 23 = .ok (.iconst 1, 1) := by decide +kernel
theorem dX7_write_24 : decode cX7_write 24 = .ok (.goto 4, 3) := by decide +kernel
theorem dX7_write_27 : decode cX7_write 27 = .ok (.iconst 0, 1) := by decide +kernel
theorem dX7_write_28 : decode cX7_write 28 = .ok (.iconst 2, 1) := by decide +kernel
theorem dX7_write_29 : decode cX7_write 29 = .ok (.invokevirtual 25, 3) := by decide +kernel
theorem dX7_write_32 : decode cX7_write 32 = .ok (.ifCond .eq 5, 3) := by decide +kernel
theorem dX7_write_35 : decode cX7_write 35 = .ok (.iconst 0, 1) := by decide +kernel
theorem dX7_write_36 : decode cX7_write 36 = .ok (.ireturn, 1) := by decide +kernel
theorem dX7_write_37 : decode cX7_write 37 = .ok (.aload_n 0, 1) := by decide +kernel
theorem dX7_write_38 : decode cX7_write 38 = .ok (.iload_n 1, 1) := by decide +kernel
theorem dX7_write_39 : decode cX7_write 39 = .ok (.iload_n 2, 1) := by decide +kernel
theorem dX7_write_40 : decode cX7_write 40 = .ok (.invokestatic 55, 3) := by decide +kernel
theorem dX7_write_43 : decode cX7_write 43 = .ok (.invokevirtual 59, 3) := by decide +kernel
theorem dX7_write_46 : decode cX7_write 46 = .ok (.ireturn, 1) := by decide +kernel
theorem dX7_put_0 : decode cX7_put 0 = .ok (.aload_n 0, 1) := by decide +kernel
theorem dX7_put_1 : decode cX7_put 1 = .ok (.getfield 9, 3) := by decide +kernel
theorem dX7_put_4 : decode cX7_put 4 = .ok (.iload_n 1, 1) := by decide +kernel
theorem dX7_put_5 : decode cX7_put 5 = .ok (.aaload, 1) := by decide +kernel
theorem dX7_put_6 : decode cX7_put 6 = .ok (.arraylength, 1) := by decide +kernel
theorem dX7_put_7 : decode cX7_put 7 = .ok (.iload_n 3, 1) := by decide +kernel
theorem dX7_put_8 : decode cX7_put 8 = .ok (.iload_n 2, 1) := by decide +kernel
theorem dX7_put_9 : decode cX7_put 9 = .ok (.isub, 1) := by decide +kernel
theorem dX7_put_10 : decode cX7_put 10 = .ok (.isub, 1) := by decide +kernel
theorem dX7_put_11 : decode cX7_put 11 = .ok (.aload 4, 2) := by decide +kernel
theorem dX7_put_13 : decode cX7_put 13 = .ok (.arraylength, 1) := by decide +kernel
theorem dX7_put_14 : decode cX7_put 14 = .ok (.iadd, 1) := by decide +kernel
theorem dX7_put_15 : decode cX7_put 15 = .ok (.bipush 64, 2) := by decide +kernel
theorem dX7_put_17 : decode cX7_put 17 = .ok (.if_icmp .le 8, 3) := by decide +kernel
theorem dX7_put_20 : decode cX7_put 20 = .ok (.aload_n 0, 1) := by decide +kernel
theorem dX7_put_21 : decode cX7_put 21 = .ok (.invokevirtual 63, 3) := by decide +kernel
theorem dX7_put_24 : decode cX7_put 24 = .ok (.ireturn, 1) := by decide +kernel
theorem dX7_put_25 : decode cX7_put 25 = .ok (.aload_n 0, 1) := by decide +kernel
theorem dX7_put_26 : decode cX7_put 26 = .ok (.iload_n 1, 1) := by decide +kernel
theorem dX7_put_27 : decode cX7_put 27 = .ok (.aload_n 0, 1) := by decide +kernel
theorem dX7_put_28 : decode cX7_put 28 = .ok (.getfield 9, 3) := by decide +kernel
theorem dX7_put_31 : decode cX7_put 31 = .ok (.iload_n 1, 1) := by decide +kernel
theorem dX7_put_32 : decode cX7_put 32 = .ok (.aaload, 1) := by decide +kernel
theorem dX7_put_33 : decode cX7_put 33 = .ok (.iload_n 2, 1) := by decide +kernel
theorem dX7_put_34 : decode cX7_put 34 = .ok (.iload_n 3, 1) := by decide +kernel
theorem dX7_put_35 : decode cX7_put 35 = .ok (.aload 4, 2) := by decide +kernel
theorem dX7_put_37 : decode cX7_put 37 = .ok (.invokestatic 67, 3) := by decide +kernel
theorem dX7_put_40 : decode cX7_put 40 = .ok (.invokevirtual 59, 3) := by decide +kernel
theorem dX7_put_43 : decode cX7_put 43 = .ok (.ireturn, 1) := by decide +kernel
theorem dX7_append_0 : decode cX7_append 0 = .ok (.aload_n 0, 1) := by decide +kernel
theorem dX7_append_1 : decode cX7_append 1 = .ok (.iload_n 1, 1) := by decide +kernel
theorem dX7_append_2 : decode cX7_append 2 = .ok (.invokestatic 33, 3) := by decide +kernel
theorem dX7_append_5 : decode cX7_append 5 = .ok (.ifCond .ne 10, 3) := by decide +kernel
theorem dX7_append_8 : decode cX7_append 8 = .ok (.iload_n 2, 1) := by decide +kernel
theorem dX7_append_9 : decode cX7_append 9 = .ok (.invokestatic 33, 3) := by decide +kernel
theorem dX7_append_12 : decode cX7_append 12 = .ok (.ifCond .eq 7, 3) := by decide +kernel
theorem dX7_append_15 : decode cX7_append 15 = .ok (.iconst 1, 1) := by decide +kernel
theorem dX7_append_16 : decode cX7_append 16 = .ok (.goto 4, 3) := by decide +kernel
theorem dX7_append_19 : decode cX7_append 19 = .ok (.iconst 0, 1) := by decide +kernel
theorem dX7_append_20 : decode cX7_append 20 = .ok (.iconst 1, 1) := by decide +kernel
theorem dX7_append_21 : decode cX7_append 21 = .ok (.invokevirtual 51, 3) := by decide +kernel
theorem dX7_append_24 : decode cX7_append 24 = .ok (.ifCond .eq 5, 3) := by decide +kernel
theorem dX7_append_27 : decode cX7_append 27 = .ok (.iconst 0, 1) := by decide +kernel
theorem dX7_append_28 : decode cX7_append 28 = .ok (.ireturn, 1) := by decide +kernel
theorem dX7_append_29 : decode cX7_append 29 = .ok (.aload_n 0, 1) := by decide +kernel
theorem dX7_append_30 : decode cX7_append 30 = .ok (.iload_n 1, 1) := by decide +kernel
theorem dX7_append_31 : decode cX7_append 31 = .ok (.aload_n 0, 1) := by decide +kernel
theorem dX7_append_32 : decode cX7_append 32 = .ok (.getfield 9, 3) := by decide +kernel
theorem dX7_append_35 : decode cX7_append 35 = .ok (.iload_n 1, 1) := by decide +kernel
theorem dX7_append_36 : decode cX7_append 36 = .ok (.aaload, 1) := by decide +kernel
theorem dX7_append_37 : decode cX7_append 37 = .ok (.arraylength, 1) := by decide +kernel
theorem dX7_append_38 : decode cX7_append 38 = .ok (.aload_n 0, 1) := by decide +kernel
theorem dX7_append_39 : decode cX7_append 39 = .ok (.getfield 9, 3) := by decide +kernel
theorem dX7_append_42 : decode cX7_append 42 = .ok (.iload_n 1, 1) := by decide +kernel
theorem dX7_append_43 : decode cX7_append 43 = .ok (.aaload, 1) := by decide +kernel
theorem dX7_append_44 : decode cX7_append 44 = .ok (.arraylength, 1) := by decide +kernel
theorem dX7_append_45 : decode cX7_append 45 = .ok (.aload_n 0, 1) := by decide +kernel
theorem dX7_append_46 : decode cX7_append 46 = .ok (.getfield 9, 3) := by decide +kernel
theorem dX7_append_49 : decode cX7_append 49 = .ok (.iload_n 2, 1) := by decide +kernel
theorem dX7_append_50 : decode cX7_append 50 = .ok (.aaload, 1) := by decide +kernel
theorem dX7_append_51 : decode cX7_append 51 = .ok (.invokevirtual 71, 3) := by decide +kernel
theorem dX7_append_54 : decode cX7_append 54 = .ok (.ireturn, 1) := by decide +kernel
theorem dX7_insertSign_0 : decode cX7_insertSign 0 = .ok (.aload_n 0, 1) := by decide +kernel
theorem dX7_insertSign_1 : decode cX7_insertSign 1 = .ok (.aload_n 0, 1) := by decide +kernel
theorem dX7_insertSign_2 : decode cX7_insertSign 2 = .ok (.iload_n 1, 1) := by decide +kernel
theorem dX7_insertSign_3 : decode cX7_insertSign 3 = .ok (.iload_n 2, 1) := by decide +kernel
theorem dX7_insertSign_4 : decode cX7_insertSign 4 = .ok (.invokevirtual 75, 3) := by decide +kernel
theorem dX7_insertSign_7 : decode cX7_insertSign 7 = .ok (.iconst 1, 1) := by decide +kernel
theorem dX7_insertSign_8 : decode cX7_insertSign 8 = .ok (.invokevirtual 51, 3) := by decide +kernel
theorem dX7_insertSign_11 : decode cX7_insertSign 11 = .ok (.ifCond .eq 5, 3) := by decide +kernel
theorem dX7_insertSign_14 : decode cX7_insertSign 14 = .ok (.iconst 0, 1) := by decide +kernel
theorem dX7_insertSign_15 : decode cX7_insertSign 15 = .ok (.ireturn, 1) := by decide +kernel
theorem dX7_insertSign_16 : decode cX7_insertSign 16 = .ok (.aload_n 0, 1) := by decide +kernel
theorem dX7_insertSign_17 : decode cX7_insertSign 17 = .ok (.iload_n 1, 1) := by decide +kernel
theorem dX7_insertSign_18 : decode cX7_insertSign 18 = .ok (.iload_n 2, 1) := by decide +kernel
theorem dX7_insertSign_19 : decode cX7_insertSign 19 = .ok (.iload_n 2, 1) := by decide +kernel
theorem dX7_insertSign_20 : decode cX7_insertSign 20 = .ok (.iconst 1, 1) := by decide +kernel
theorem dX7_insertSign_21 : decode cX7_insertSign 21 = .ok (.newarray .int, 2) := by decide +kernel
theorem dX7_insertSign_23 : decode cX7_insertSign 23 = .ok (.dup, 1) := by decide +kernel
theorem dX7_insertSign_24 : decode cX7_insertSign 24 = .ok (.iconst 0, 1) := by decide +kernel
theorem dX7_insertSign_25 : decode cX7_insertSign 25 = .ok (.iload_n 3, 1) := by decide +kernel
theorem dX7_insertSign_26 : decode cX7_insertSign 26 = .ok (.invokestatic 79, 3) := by decide +kernel
theorem dX7_insertSign_29 : decode cX7_insertSign 29 = .ok (.iastore, 1) := by decide +kernel
theorem dX7_insertSign_30 : decode cX7_insertSign 30 = .ok (.invokevirtual 71, 3) := by decide +kernel
theorem dX7_insertSign_33 : decode cX7_insertSign 33 = .ok (.ireturn, 1) := by decide +kernel
theorem dX7_insertSheet_0 : decode cX7_insertSheet 0 = .ok (.aload_n 0, 1) := by decide +kernel
theorem dX7_insertSheet_1 : decode cX7_insertSheet 1 = .ok (.aload_n 0, 1) := by decide +kernel
theorem dX7_insertSheet_2 : decode cX7_insertSheet 2 = .ok (.iload_n 1, 1) := by decide +kernel
theorem dX7_insertSheet_3 : decode cX7_insertSheet 3 = .ok (.iload_n 2, 1) := by decide +kernel
theorem dX7_insertSheet_4 : decode cX7_insertSheet 4 = .ok (.invokevirtual 75, 3) := by decide +kernel
theorem dX7_insertSheet_7 : decode cX7_insertSheet 7 = .ok (.ifCond .ne 10, 3) := by decide +kernel
theorem dX7_insertSheet_10 : decode cX7_insertSheet 10 = .ok (.iload_n 3, 1) := by decide +kernel
theorem dX7_insertSheet_11 : decode cX7_insertSheet 11 = .ok (.invokestatic 33, 3) := by decide +kernel
theorem dX7_insertSheet_14 : decode cX7_insertSheet 14 = .ok (.ifCond .eq 7, 3) := by decide +kernel
theorem dX7_insertSheet_17 : decode cX7_insertSheet 17 = .ok (.iconst 1, 1) := by decide +kernel
theorem dX7_insertSheet_18 : decode cX7_insertSheet 18 = .ok (.goto 4, 3) := by decide +kernel
theorem dX7_insertSheet_21 : decode cX7_insertSheet 21 = .ok (.iconst 0, 1) := by decide +kernel
theorem dX7_insertSheet_22 : decode cX7_insertSheet 22 = .ok (.iconst 1, 1) := by decide +kernel
theorem dX7_insertSheet_23 : decode cX7_insertSheet 23 = .ok (.invokevirtual 51, 3) := by decide +kernel
theorem dX7_insertSheet_26 : decode cX7_insertSheet 26 = .ok (.ifCond .eq 5, 3) := by decide +kernel
theorem dX7_insertSheet_29 : decode cX7_insertSheet 29 = .ok (.iconst 0, 1) := by decide +kernel
theorem dX7_insertSheet_30 : decode cX7_insertSheet 30 = .ok (.ireturn, 1) := by decide +kernel
theorem dX7_insertSheet_31 : decode cX7_insertSheet 31 = .ok (.aload_n 0, 1) := by decide +kernel
theorem dX7_insertSheet_32 : decode cX7_insertSheet 32 = .ok (.iload_n 1, 1) := by decide +kernel
theorem dX7_insertSheet_33 : decode cX7_insertSheet 33 = .ok (.iload_n 2, 1) := by decide +kernel
theorem dX7_insertSheet_34 : decode cX7_insertSheet 34 = .ok (.iload_n 2, 1) := by decide +kernel
theorem dX7_insertSheet_35 : decode cX7_insertSheet 35 = .ok (.aload_n 0, 1) := by decide +kernel
theorem dX7_insertSheet_36 : decode cX7_insertSheet 36 = .ok (.getfield 9, 3) := by decide +kernel
theorem dX7_insertSheet_39 : decode cX7_insertSheet 39 = .ok (.iload_n 3, 1) := by decide +kernel
theorem dX7_insertSheet_40 : decode cX7_insertSheet 40 = .ok (.aaload, 1) := by decide +kernel
theorem dX7_insertSheet_41 : decode cX7_insertSheet 41 = .ok (.invokevirtual 71, 3) := by decide +kernel
theorem dX7_insertSheet_44 : decode cX7_insertSheet 44 = .ok (.ireturn, 1) := by decide +kernel
theorem dX7_setSign_0 : decode cX7_setSign 0 = .ok (.aload_n 0, 1) := by decide +kernel
theorem dX7_setSign_1 : decode cX7_setSign 1 = .ok (.aload_n 0, 1) := by decide +kernel
theorem dX7_setSign_2 : decode cX7_setSign 2 = .ok (.iload_n 1, 1) := by decide +kernel
theorem dX7_setSign_3 : decode cX7_setSign 3 = .ok (.iload_n 2, 1) := by decide +kernel
theorem dX7_setSign_4 : decode cX7_setSign 4 = .ok (.invokevirtual 83, 3) := by decide +kernel
theorem dX7_setSign_7 : decode cX7_setSign 7 = .ok (.iconst 1, 1) := by decide +kernel
theorem dX7_setSign_8 : decode cX7_setSign 8 = .ok (.invokevirtual 51, 3) := by decide +kernel
theorem dX7_setSign_11 : decode cX7_setSign 11 = .ok (.ifCond .eq 5, 3) := by decide +kernel
theorem dX7_setSign_14 : decode cX7_setSign 14 = .ok (.iconst 0, 1) := by decide +kernel
theorem dX7_setSign_15 : decode cX7_setSign 15 = .ok (.ireturn, 1) := by decide +kernel
theorem dX7_setSign_16 : decode cX7_setSign 16 = .ok (.aload_n 0, 1) := by decide +kernel
theorem dX7_setSign_17 : decode cX7_setSign 17 = .ok (.getfield 9, 3) := by decide +kernel
theorem dX7_setSign_20 : decode cX7_setSign 20 = .ok (.iload_n 1, 1) := by decide +kernel
theorem dX7_setSign_21 : decode cX7_setSign 21 = .ok (.aaload, 1) := by decide +kernel
theorem dX7_setSign_22 : decode cX7_setSign 22 = .ok (.iload_n 2, 1) := by decide +kernel
theorem dX7_setSign_23 : decode cX7_setSign 23 = .ok (.iaload, 1) := by decide +kernel
theorem dX7_setSign_24 : decode cX7_setSign 24 = .ok (.istore 4, 2) := by decide +kernel
theorem dX7_setSign_26 : decode cX7_setSign 26 = .ok (.aload_n 0, 1) := by decide +kernel
theorem dX7_setSign_27 : decode cX7_setSign 27 = .ok (.iload_n 1, 1) := by decide +kernel
theorem dX7_setSign_28 : decode cX7_setSign 28 = .ok (.aload_n 0, 1) := by decide +kernel
theorem dX7_setSign_29 : decode cX7_setSign 29 = .ok (.getfield 9, 3) := by decide +kernel
theorem dX7_setSign_32 : decode cX7_setSign 32 = .ok (.iload_n 1, 1) := by decide +kernel
theorem dX7_setSign_33 : decode cX7_setSign 33 = .ok (.aaload, 1) := by decide +kernel
theorem dX7_setSign_34 : decode cX7_setSign 34 = .ok (.iload_n 2, 1) := by decide +kernel
theorem dX7_setSign_35 : decode cX7_setSign 35 = .ok (.iload_n 2, 1) := by decide +kernel
theorem dX7_setSign_36 : decode cX7_setSign 36 = .ok (.iconst 1, 1) := by decide +kernel
theorem dX7_setSign_37 : decode cX7_setSign 37 = .ok (.iadd, 1) := by decide +kernel
theorem dX7_setSign_38 : decode cX7_setSign 38 = .ok (.iconst 1, 1) := by decide +kernel
theorem dX7_setSign_39 : decode cX7_setSign 39 = .ok (.newarray .int, 2) := by decide +kernel
theorem dX7_setSign_41 : decode cX7_setSign 41 = .ok (.dup, 1) := by decide +kernel
theorem dX7_setSign_42 : decode cX7_setSign 42 = .ok (.iconst 0, 1) := by decide +kernel
theorem dX7_setSign_43 : decode cX7_setSign 43 = .ok (.iload_n 3, 1) := by decide +kernel
theorem dX7_setSign_44 : decode cX7_setSign 44 = .ok (.invokestatic 79, 3) := by decide +kernel
theorem dX7_setSign_47 : decode cX7_setSign 47 = .ok (.iastore, 1) := by decide +kernel
theorem dX7_setSign_48 : decode cX7_setSign 48 = .ok (.invokestatic 67, 3) := by decide +kernel
theorem dX7_setSign_51 : decode cX7_setSign 51 = .ok (.invokevirtual 59, 3) := by decide +kernel
theorem dX7_setSign_54 : decode cX7_setSign 54 = .ok (.pop, 1) := by decide +kernel
theorem dX7_setSign_55 : decode cX7_setSign 55 = .ok (.iload 4, 2) := by decide +kernel
theorem dX7_setSign_57 : decode cX7_setSign 57 = .ok (.iload_n 3, 1) := by decide +kernel
theorem dX7_setSign_58 : decode cX7_setSign 58 = .ok (.invokestatic 79, 3) := by decide +kernel
theorem dX7_setSign_61 : decode cX7_setSign 61 = .ok (.if_icmp .eq 7, 3) := by decide +kernel
theorem dX7_setSign_64 : decode cX7_setSign 64 = .ok (.iconst 1, 1) := by decide +kernel
theorem dX7_setSign_65 : decode cX7_setSign 65 = .ok (.goto 4, 3) := by decide +kernel
theorem dX7_setSign_68 : decode cX7_setSign 68 = .ok (.iconst 0, 1) := by decide +kernel
theorem dX7_setSign_69 : decode cX7_setSign 69 = .ok (.invokestatic 79, 3) := by decide +kernel
theorem dX7_setSign_72 : decode cX7_setSign 72 = .ok (.ireturn, 1) := by decide +kernel
theorem dX7_removeSign_0 : decode cX7_removeSign 0 = .ok (.aload_n 0, 1) := by decide +kernel
theorem dX7_removeSign_1 : decode cX7_removeSign 1 = .ok (.aload_n 0, 1) := by decide +kernel
theorem dX7_removeSign_2 : decode cX7_removeSign 2 = .ok (.iload_n 1, 1) := by decide +kernel
theorem dX7_removeSign_3 : decode cX7_removeSign 3 = .ok (.iload_n 2, 1) := by decide +kernel
theorem dX7_removeSign_4 : decode cX7_removeSign 4 = .ok (.invokevirtual 83, 3) := by decide +kernel
theorem dX7_removeSign_7 : decode cX7_removeSign 7 = .ok (.iconst 1, 1) := by decide +kernel
theorem dX7_removeSign_8 : decode cX7_removeSign 8 = .ok (.invokevirtual 51, 3) := by decide +kernel
theorem dX7_removeSign_11 : decode cX7_removeSign 11 = .ok (.ifCond .eq 5, 3) := by decide +kernel
theorem dX7_removeSign_14 : decode cX7_removeSign 14 = .ok (.iconst 0, 1) := by decide +kernel
theorem dX7_removeSign_15 : decode cX7_removeSign 15 = .ok (.ireturn, 1) := by decide +kernel
theorem dX7_removeSign_16 : decode cX7_removeSign 16 = .ok (.aload_n 0, 1) := by decide +kernel
theorem dX7_removeSign_17 : decode cX7_removeSign 17 = .ok (.getfield 9, 3) := by decide +kernel
theorem dX7_removeSign_20 : decode cX7_removeSign 20 = .ok (.iload_n 1, 1) := by decide +kernel
theorem dX7_removeSign_21 : decode cX7_removeSign 21 = .ok (.aaload, 1) := by decide +kernel
theorem dX7_removeSign_22 : decode cX7_removeSign 22 = .ok (.iload_n 2, 1) := by decide +kernel
theorem dX7_removeSign_23 : decode cX7_removeSign 23 = .ok (.iaload, 1) := by decide +kernel
theorem dX7_removeSign_24 : decode cX7_removeSign 24 = .ok (.istore_n 3, 1) := by decide +kernel
theorem dX7_removeSign_25 : decode cX7_removeSign 25 = .ok (.aload_n 0, 1) := by decide +kernel
theorem dX7_removeSign_26 : decode cX7_removeSign 26 = .ok (.iload_n 1, 1) := by decide +kernel
theorem dX7_removeSign_27 : decode cX7_removeSign 27 = .ok (.aload_n 0, 1) := by decide +kernel
theorem dX7_removeSign_28 : decode cX7_removeSign 28 = .ok (.getfield 9, 3) := by decide +kernel
theorem dX7_removeSign_31 : decode cX7_removeSign 31 = .ok (.iload_n 1, 1) := by decide +kernel
theorem dX7_removeSign_32 : decode cX7_removeSign 32 = .ok (.aaload, 1) := by decide +kernel
theorem dX7_removeSign_33 : decode cX7_removeSign 33 = .ok (.iload_n 2, 1) := by decide +kernel
theorem dX7_removeSign_34 : decode cX7_removeSign 34 = .ok (.iload_n 2, 1) := by decide +kernel
theorem dX7_removeSign_35 : decode cX7_removeSign 35 = .ok (.iconst 1, 1) := by decide +kernel
theorem dX7_removeSign_36 : decode cX7_removeSign 36 = .ok (.iadd, 1) := by decide +kernel
theorem dX7_removeSign_37 : decode cX7_removeSign 37 = .ok (.iconst 0, 1) := by decide +kernel
theorem dX7_removeSign_38 : decode cX7_removeSign 38 = .ok (.newarray .int, 2) := by decide +kernel
theorem dX7_removeSign_40 : decode cX7_removeSign 40 = .ok (.invokestatic 67, 3) := by decide +kernel
theorem dX7_removeSign_43 : decode cX7_removeSign 43 = .ok (.invokevirtual 59, 3) := by decide +kernel
theorem dX7_removeSign_46 : decode cX7_removeSign 46 = .ok (.pop, 1) := by decide +kernel
theorem dX7_removeSign_47 : decode cX7_removeSign 47 = .ok (.iload_n 3, 1) := by decide +kernel
theorem dX7_removeSign_48 : decode cX7_removeSign 48 = .ok (.ireturn, 1) := by decide +kernel
theorem dX7_remove_0 : decode cX7_remove 0 = .ok (.aload_n 0, 1) := by decide +kernel
theorem dX7_remove_1 : decode cX7_remove 1 = .ok (.aload_n 0, 1) := by decide +kernel
theorem dX7_remove_2 : decode cX7_remove 2 = .ok (.iload_n 1, 1) := by decide +kernel
theorem dX7_remove_3 : decode cX7_remove 3 = .ok (.iload_n 2, 1) := by decide +kernel
theorem dX7_remove_4 : decode cX7_remove 4 = .ok (.iload_n 3, 1) := by decide +kernel
theorem dX7_remove_5 : decode cX7_remove 5 = .ok (.invokevirtual 86, 3) := by decide +kernel
theorem dX7_remove_8 : decode cX7_remove 8 = .ok (.iconst 1, 1) := by decide +kernel
theorem dX7_remove_9 : decode cX7_remove 9 = .ok (.invokevirtual 51, 3) := by decide +kernel
theorem dX7_remove_12 : decode cX7_remove 12 = .ok (.ifCond .eq 5, 3) := by decide +kernel
theorem dX7_remove_15 : decode cX7_remove 15 = .ok (.iconst 0, 1) := by decide +kernel
theorem dX7_remove_16 : decode cX7_remove 16 = .ok (.ireturn, 1) := by decide +kernel
theorem dX7_remove_17 : decode cX7_remove 17 = .ok (.aload_n 0, 1) := by decide +kernel
theorem dX7_remove_18 : decode cX7_remove 18 = .ok (.getfield 9, 3) := by decide +kernel
theorem dX7_remove_21 : decode cX7_remove 21 = .ok (.iload_n 1, 1) := by decide +kernel
theorem dX7_remove_22 : decode cX7_remove 22 = .ok (.aaload, 1) := by decide +kernel
theorem dX7_remove_23 : decode cX7_remove 23 = .ok (.invokestatic 41, 3) := by decide +kernel
theorem dX7_remove_26 : decode cX7_remove 26 = .ok (.istore 4, 2) := by decide +kernel
theorem dX7_remove_28 : decode cX7_remove 28 = .ok (.aload_n 0, 1) := by decide +kernel
theorem dX7_remove_29 : decode cX7_remove 29 = .ok (.iload_n 1, 1) := by decide +kernel
theorem dX7_remove_30 : decode cX7_remove 30 = .ok (.aload_n 0, 1) := by decide +kernel
theorem dX7_remove_31 : decode cX7_remove 31 = .ok (.getfield 9, 3) := by decide +kernel
theorem dX7_remove_34 : decode cX7_remove 34 = .ok (.iload_n 1, 1) := by decide +kernel
theorem dX7_remove_35 : decode cX7_remove 35 = .ok (.aaload, 1) := by decide +kernel
theorem dX7_remove_36 : decode cX7_remove 36 = .ok (.iload_n 2, 1) := by decide +kernel
theorem dX7_remove_37 : decode cX7_remove 37 = .ok (.iload_n 3, 1) := by decide +kernel
theorem dX7_remove_38 : decode cX7_remove 38 = .ok (.iconst 0, 1) := by decide +kernel
theorem dX7_remove_39 : decode cX7_remove 39 = .ok (.newarray .int, 2) := by decide +kernel
theorem dX7_remove_41 : decode cX7_remove 41 = .ok (.invokestatic 67, 3) := by decide +kernel
theorem dX7_remove_44 : decode cX7_remove 44 = .ok (.invokevirtual 59, 3) := by decide +kernel
theorem dX7_remove_47 : decode cX7_remove 47 = .ok (.pop, 1) := by decide +kernel
theorem dX7_remove_48 : decode cX7_remove 48 = .ok (.iload 4, 2) := by decide +kernel
theorem dX7_remove_50 : decode cX7_remove 50 = .ok (.aload_n 0, 1) := by decide +kernel
theorem dX7_remove_51 : decode cX7_remove 51 = .ok (.getfield 9, 3) := by decide +kernel
theorem dX7_remove_54 : decode cX7_remove 54 = .ok (.iload_n 1, 1) := by decide +kernel
theorem dX7_remove_55 : decode cX7_remove 55 = .ok (.aaload, 1) := by decide +kernel
theorem dX7_remove_56 : decode cX7_remove 56 = .ok (.invokestatic 41, 3) := by decide +kernel
theorem dX7_remove_59 : decode cX7_remove 59 = .ok (.isub, 1) := by decide +kernel
theorem dX7_remove_60 : decode cX7_remove 60 = .ok (.ireturn, 1) := by decide +kernel
theorem dX7_replace_0 : decode cX7_replace 0 = .ok (.aload_n 0, 1) := by decide +kernel
theorem dX7_replace_1 : decode cX7_replace 1 = .ok (.aload_n 0, 1) := by decide +kernel
theorem dX7_replace_2 : decode cX7_replace 2 = .ok (.iload_n 1, 1) := by decide +kernel
theorem dX7_replace_3 : decode cX7_replace 3 = .ok (.iload_n 2, 1) := by decide +kernel
theorem dX7_replace_4 : decode cX7_replace 4 = .ok (.iload_n 3, 1) := by decide +kernel
theorem dX7_replace_5 : decode cX7_replace 5 = .ok (.invokevirtual 86, 3) := by decide +kernel
theorem dX7_replace_8 : decode cX7_replace 8 = .ok (.ifCond .ne 11, 3) := by decide +kernel
theorem dX7_replace_11 : decode cX7_replace 11 = .ok (.iload 4, 2) := by decide +kernel
theorem dX7_replace_13 : decode cX7_replace 13 = .ok (.invokestatic 33, 3) := by decide +kernel
theorem dX7_replace_16 : decode cX7_replace 16 = .ok (.ifCond .eq 7, 3) := by decide +kernel
theorem dX7_replace_19 : decode cX7_replace 19 = .ok (.iconst 1, 1) := by decide +kernel
theorem dX7_replace_20 : decode cX7_replace 20 = .ok (.goto 4, 3) := by decide +kernel
theorem dX7_replace_23 : decode cX7_replace 23 = .ok (.iconst 0, 1) := by decide +kernel
theorem dX7_replace_24 : decode cX7_replace 24 = .ok (.iconst 1, 1) := by decide +kernel
theorem dX7_replace_25 : decode cX7_replace 25 = .ok (.invokevirtual 51, 3) := by decide +kernel
theorem dX7_replace_28 : decode cX7_replace 28 = .ok (.ifCond .eq 5, 3) := by decide +kernel
theorem dX7_replace_31 : decode cX7_replace 31 = .ok (.iconst 0, 1) := by decide +kernel
theorem dX7_replace_32 : decode cX7_replace 32 = .ok (.ireturn, 1) := by decide +kernel
theorem dX7_replace_33 : decode cX7_replace 33 = .ok (.aload_n 0, 1) := by decide +kernel
theorem dX7_replace_34 : decode cX7_replace 34 = .ok (.iload_n 1, 1) := by decide +kernel
theorem dX7_replace_35 : decode cX7_replace 35 = .ok (.iload_n 2, 1) := by decide +kernel
theorem dX7_replace_36 : decode cX7_replace 36 = .ok (.iload_n 3, 1) := by decide +kernel
theorem dX7_replace_37 : decode cX7_replace 37 = .ok (.aload_n 0, 1) := by decide +kernel
theorem dX7_replace_38 : decode cX7_replace 38 = .ok (.getfield 9, 3) := by decide +kernel
theorem dX7_replace_41 : decode cX7_replace 41 = .ok (.iload 4, 2) := by decide +kernel
theorem dX7_replace_43 : decode cX7_replace 43 = .ok (.aaload, 1) := by decide +kernel
theorem dX7_replace_44 : decode cX7_replace 44 = .ok (.invokevirtual 71, 3) := by decide +kernel
theorem dX7_replace_47 : decode cX7_replace 47 = .ok (.ireturn, 1) := by decide +kernel
theorem dX7_cutTo_0 : decode cX7_cutTo 0 = .ok (.aload_n 0, 1) := by decide +kernel
theorem dX7_cutTo_1 : decode cX7_cutTo 1 = .ok (.iload_n 1, 1) := by decide +kernel
theorem dX7_cutTo_2 : decode cX7_cutTo 2 = .ok (.invokestatic 33, 3) := by decide +kernel
theorem dX7_cutTo_5 : decode cX7_cutTo 5 = .ok (.iconst 1, 1) := by decide +kernel
theorem dX7_cutTo_6 : decode cX7_cutTo 6 = .ok (.invokevirtual 51, 3) := by decide +kernel
theorem dX7_cutTo_9 : decode cX7_cutTo 9 = .ok (.ifCond .ne 26, 3) := by decide +kernel
theorem dX7_cutTo_12 : decode cX7_cutTo 12 = .ok (.aload_n 0, 1) := by decide +kernel
theorem dX7_cutTo_13 : decode cX7_cutTo 13 = .ok (.iload_n 2, 1) := by decide +kernel
theorem dX7_cutTo_14 : decode cX7_cutTo 14 = .ok (.iconst 0, 1) := by decide +kernel
theorem dX7_cutTo_15 : decode cX7_cutTo 15 = .ok (.bipush 64, 2) := by decide +kernel
theorem dX7_cutTo_17 : decode cX7_cutTo 17 = .ok (.invokestatic 29, 3) := by decide +kernel
theorem dX7_cutTo_20 : decode cX7_cutTo 20 = .ok (.ifCond .ne 7, 3) := by decide +kernel
theorem dX7_cutTo_23 : decode cX7_cutTo 23 = .ok (.iconst 1, 1) := by decide +kernel
theorem dX7_cutTo_24 : decode cX7_cutTo 24 = .ok (.goto 4, 3) := by decide +kernel
theorem dX7_cutTo_27 : decode cX7_cutTo 27 = .ok (.iconst 0, 1) := by decide +kernel
theorem dX7_cutTo_28 : decode cX7_cutTo 28 = .ok (.iconst 2, 1) := by decide +kernel
theorem dX7_cutTo_29 : decode cX7_cutTo 29 = .ok (.invokevirtual 25, 3) := by decide +kernel
theorem dX7_cutTo_32 : decode cX7_cutTo 32 = .ok (.ifCond .eq 5, 3) := by decide +kernel
theorem dX7_cutTo_35 : decode cX7_cutTo 35 = .ok (.iconst 0, 1) := by decide +kernel
theorem dX7_cutTo_36 : decode cX7_cutTo 36 = .ok (.ireturn, 1) := by decide +kernel
theorem dX7_cutTo_37 : decode cX7_cutTo 37 = .ok (.aload_n 0, 1) := by decide +kernel
theorem dX7_cutTo_38 : decode cX7_cutTo 38 = .ok (.getfield 9, 3) := by decide +kernel
theorem dX7_cutTo_41 : decode cX7_cutTo 41 = .ok (.iload_n 1, 1) := by decide +kernel
theorem dX7_cutTo_42 : decode cX7_cutTo 42 = .ok (.aaload, 1) := by decide +kernel
theorem dX7_cutTo_43 : decode cX7_cutTo 43 = .ok (.astore_n 3, 1) := by decide +kernel
theorem dX7_cutTo_44 : decode cX7_cutTo 44 = .ok (.iload_n 2, 1) := by decide +kernel
theorem dX7_cutTo_45 : decode cX7_cutTo 45 = .ok (.newarray .int, 2) := by decide +kernel
theorem dX7_cutTo_47 : decode cX7_cutTo 47 = .ok (.astore 4, 2) := by decide +kernel
theorem dX7_cutTo_49 : decode cX7_cutTo 49 = .ok (.iconst 0, 1) := by decide +kernel
theorem dX7_cutTo_50 : decode cX7_cutTo 50 = .ok (.istore 5, 2) := by decide +kernel
theorem dX7_cutTo_52 : decode cX7_cutTo 52 = .ok (.iload 5, 2) := by decide +kernel
theorem dX7_cutTo_54 : decode cX7_cutTo 54 = .ok (.iload_n 2, 1) := by decide +kernel
theorem dX7_cutTo_55 : decode cX7_cutTo 55 = .ok (.if_icmp .ge 25, 3) := by decide +kernel
theorem dX7_cutTo_58 : decode cX7_cutTo 58 = .ok (.iload 5, 2) := by decide +kernel
theorem dX7_cutTo_60 : decode cX7_cutTo 60 = .ok (.aload_n 3, 1) := by decide +kernel
theorem dX7_cutTo_61 : decode cX7_cutTo 61 = .ok (.arraylength, 1) := by decide +kernel
theorem dX7_cutTo_62 : decode cX7_cutTo 62 = .ok (.if_icmp .ge 18, 3) := by decide +kernel
theorem dX7_cutTo_65 : decode cX7_cutTo 65 = .ok (.aload 4, 2) := by decide +kernel
theorem dX7_cutTo_67 : decode cX7_cutTo 67 = .ok (.iload 5, 2) := by decide +kernel
theorem dX7_cutTo_69 : decode cX7_cutTo 69 = .ok (.aload_n 3, 1) := by decide +kernel
theorem dX7_cutTo_70 : decode cX7_cutTo 70 = .ok (.iload 5, 2) := by decide +kernel
theorem dX7_cutTo_72 : decode cX7_cutTo 72 = .ok (.iaload, 1) := by decide +kernel
theorem dX7_cutTo_73 : decode cX7_cutTo 73 = .ok (.iastore, 1) := by decide +kernel
theorem dX7_cutTo_74 : decode cX7_cutTo 74 = .ok (.iinc 5 1, 3) := by decide +kernel
theorem dX7_cutTo_77 : decode cX7_cutTo 77 = .ok (.goto (-25), 3) := by decide +kernel
theorem dX7_cutTo_80 : decode cX7_cutTo 80 = .ok (.aload_n 0, 1) := by decide +kernel
theorem dX7_cutTo_81 : decode cX7_cutTo 81 = .ok (.iload_n 1, 1) := by decide +kernel
theorem dX7_cutTo_82 : decode cX7_cutTo 82 = .ok (.aload 4, 2) := by decide +kernel
theorem dX7_cutTo_84 : decode cX7_cutTo 84 = .ok (.invokevirtual 59, 3) := by decide +kernel
theorem dX7_cutTo_87 : decode cX7_cutTo 87 = .ok (.pop, 1) := by decide +kernel
theorem dX7_cutTo_88 : decode cX7_cutTo 88 = .ok (.aload_n 3, 1) := by decide +kernel
theorem dX7_cutTo_89 : decode cX7_cutTo 89 = .ok (.arraylength, 1) := by decide +kernel
theorem dX7_cutTo_90 : decode cX7_cutTo 90 = .ok (.ireturn, 1) := by decide +kernel
theorem dX7_becomes_0 : decode cX7_becomes 0 = .ok (.aload_n 0, 1) := by decide +kernel
theorem dX7_becomes_1 : decode cX7_becomes 1 = .ok (.getfield 9, 3) := by decide +kernel
theorem dX7_becomes_4 : decode cX7_becomes 4 = .ok (.iload_n 1, 1) := by decide +kernel
theorem dX7_becomes_5 : decode cX7_becomes 5 = .ok (.aaload, 1) := by decide +kernel
theorem dX7_becomes_6 : decode cX7_becomes 6 = .ok (.aload_n 2, 1) := by decide +kernel
theorem dX7_becomes_7 : decode cX7_becomes 7 = .ok (.invokestatic 89, 3) := by decide +kernel
theorem dX7_becomes_10 : decode cX7_becomes 10 = .ok (.ifCond .ne 7, 3) := by decide +kernel
theorem dX7_becomes_13 : decode cX7_becomes 13 = .ok (.iconst 1, 1) := by decide +kernel
theorem dX7_becomes_14 : decode cX7_becomes 14 = .ok (.goto 4, 3) := by decide +kernel
theorem dX7_becomes_17 : decode cX7_becomes 17 = .ok (.iconst 0, 1) := by decide +kernel
theorem dX7_becomes_18 : decode cX7_becomes 18 = .ok (.invokestatic 79, 3) := by decide +kernel
theorem dX7_becomes_21 : decode cX7_becomes 21 = .ok (.istore_n 3, 1) := by decide +kernel
theorem dX7_becomes_22 : decode cX7_becomes 22 = .ok (.aload_n 0, 1) := by decide +kernel
theorem dX7_becomes_23 : decode cX7_becomes 23 = .ok (.iload_n 1, 1) := by decide +kernel
theorem dX7_becomes_24 : decode cX7_becomes 24 = .ok (.aload_n 2, 1) := by decide +kernel
theorem dX7_becomes_25 : decode cX7_becomes 25 = .ok (.invokevirtual 59, 3) := by decide +kernel
theorem dX7_becomes_28 : decode cX7_becomes 28 = .ok (.pop, 1) := by decide +kernel
theorem dX7_becomes_29 : decode cX7_becomes 29 = .ok (.iload_n 3, 1) := by decide +kernel
theorem dX7_becomes_30 : decode cX7_becomes 30 = .ok (.ireturn, 1) := by decide +kernel
theorem dX7_turn_0 : decode cX7_turn 0 = .ok (.aload_n 0, 1) := by decide +kernel
theorem dX7_turn_1 : decode cX7_turn 1 = .ok (.iload_n 1, 1) := by decide +kernel
theorem dX7_turn_2 : decode cX7_turn 2 = .ok (.invokestatic 33, 3) := by decide +kernel
theorem dX7_turn_5 : decode cX7_turn 5 = .ok (.iconst 1, 1) := by decide +kernel
theorem dX7_turn_6 : decode cX7_turn 6 = .ok (.invokevirtual 51, 3) := by decide +kernel
theorem dX7_turn_9 : decode cX7_turn 9 = .ok (.ifCond .eq 5, 3) := by decide +kernel
theorem dX7_turn_12 : decode cX7_turn 12 = .ok (.iconst 0, 1) := by decide +kernel
theorem dX7_turn_13 : decode cX7_turn 13 = .ok (.ireturn, 1) := by decide +kernel
theorem dX7_turn_14 : decode cX7_turn 14 = .ok (.aload_n 0, 1) := by decide +kernel
theorem dX7_turn_15 : decode cX7_turn 15 = .ok (.iload_n 1, 1) := by decide +kernel
theorem dX7_turn_16 : decode cX7_turn 16 = .ok (.aload_n 0, 1) := by decide +kernel
theorem dX7_turn_17 : decode cX7_turn 17 = .ok (.getfield 9, 3) := by decide +kernel
theorem dX7_turn_20 : decode cX7_turn 20 = .ok (.iload_n 1, 1) := by decide +kernel
theorem dX7_turn_21 : decode cX7_turn 21 = .ok (.aaload, 1) := by decide +kernel
theorem dX7_turn_22 : decode cX7_turn 22 = .ok (.invokestatic 93, 3) := by decide +kernel
theorem dX7_turn_25 : decode cX7_turn 25 = .ok (.invokevirtual 97, 3) := by decide +kernel
theorem dX7_turn_28 : decode cX7_turn 28 = .ok (.ireturn, 1) := by decide +kernel
theorem dX7_exchange_0 : decode cX7_exchange 0 = .ok (.aload_n 0, 1) := by decide +kernel
theorem dX7_exchange_1 : decode cX7_exchange 1 = .ok (.iload_n 1, 1) := by decide +kernel
theorem dX7_exchange_2 : decode cX7_exchange 2 = .ok (.invokestatic 33, 3) := by decide +kernel
theorem dX7_exchange_5 : decode cX7_exchange 5 = .ok (.iconst 1, 1) := by decide +kernel
theorem dX7_exchange_6 : decode cX7_exchange 6 = .ok (.invokevirtual 51, 3) := by decide +kernel
theorem dX7_exchange_9 : decode cX7_exchange 9 = .ok (.ifCond .eq 5, 3) := by decide +kernel
theorem dX7_exchange_12 : decode cX7_exchange 12 = .ok (.iconst 0, 1) := by decide +kernel
theorem dX7_exchange_13 : decode cX7_exchange 13 = .ok (.ireturn, 1) := by decide +kernel
theorem dX7_exchange_14 : decode cX7_exchange 14 = .ok (.aload_n 0, 1) := by decide +kernel
theorem dX7_exchange_15 : decode cX7_exchange 15 = .ok (.iload_n 1, 1) := by decide +kernel
theorem dX7_exchange_16 : decode cX7_exchange 16 = .ok (.aload_n 0, 1) := by decide +kernel
theorem dX7_exchange_17 : decode cX7_exchange 17 = .ok (.getfield 9, 3) := by decide +kernel
theorem dX7_exchange_20 : decode cX7_exchange 20 = .ok (.iload_n 1, 1) := by decide +kernel
theorem dX7_exchange_21 : decode cX7_exchange 21 = .ok (.aaload, 1) := by decide +kernel
theorem dX7_exchange_22 : decode cX7_exchange 22 = .ok (.iconst 1, 1) := by decide +kernel
theorem dX7_exchange_23 : decode cX7_exchange 23 = .ok (.newarray .int, 2) := by decide +kernel
theorem dX7_exchange_25 : decode cX7_exchange 25 = .ok (.dup, 1) := by decide +kernel
theorem dX7_exchange_26 : decode cX7_exchange 26 = .ok (.iconst 0, 1) := by decide +kernel
theorem dX7_exchange_27 : decode cX7_exchange 27 = .ok (.iconst 1, 1) := by decide +kernel
theorem dX7_exchange_28 : decode cX7_exchange 28 = .ok (.iastore, 1) := by decide +kernel
theorem dX7_exchange_29 : decode cX7_exchange 29 = .ok (.iconst 1, 1) := by decide +kernel
theorem dX7_exchange_30 : decode cX7_exchange 30 = .ok (.newarray .int, 2) := by decide +kernel
theorem dX7_exchange_32 : decode cX7_exchange 32 = .ok (.dup, 1) := by decide +kernel
theorem dX7_exchange_33 : decode cX7_exchange 33 = .ok (.iconst 0, 1) := by decide +kernel
theorem dX7_exchange_34 : decode cX7_exchange 34 = .ok (.iconst 0, 1) := by decide +kernel
theorem dX7_exchange_35 : decode cX7_exchange 35 = .ok (.iastore, 1) := by decide +kernel
theorem dX7_exchange_36 : decode cX7_exchange 36 = .ok (.invokestatic 100, 3) := by decide +kernel
theorem dX7_exchange_39 : decode cX7_exchange 39 = .ok (.invokevirtual 59, 3) := by decide +kernel
theorem dX7_exchange_42 : decode cX7_exchange 42 = .ok (.pop, 1) := by decide +kernel
theorem dX7_exchange_43 : decode cX7_exchange 43 = .ok (.aload_n 0, 1) := by decide +kernel
theorem dX7_exchange_44 : decode cX7_exchange 44 = .ok (.getfield 9, 3) := by decide +kernel
theorem dX7_exchange_47 : decode cX7_exchange 47 = .ok (.iload_n 1, 1) := by decide +kernel
theorem dX7_exchange_48 : decode cX7_exchange 48 = .ok (.aaload, 1) := by decide +kernel
theorem dX7_exchange_49 : decode cX7_exchange 49 = .ok (.invokestatic 41, 3) := by decide +kernel
theorem dX7_exchange_52 : decode cX7_exchange 52 = .ok (.ireturn, 1) := by decide +kernel
theorem dX7_rotate_0 : decode cX7_rotate 0 = .ok (.aload_n 0, 1) := by decide +kernel
theorem dX7_rotate_1 : decode cX7_rotate 1 = .ok (.iload_n 1, 1) := by decide +kernel
theorem dX7_rotate_2 : decode cX7_rotate 2 = .ok (.invokestatic 33, 3) := by decide +kernel
theorem dX7_rotate_5 : decode cX7_rotate 5 = .ok (.iconst 1, 1) := by decide +kernel
theorem dX7_rotate_6 : decode cX7_rotate 6 = .ok (.invokevirtual 51, 3) := by decide +kernel
theorem dX7_rotate_9 : decode cX7_rotate 9 = .ok (.ifCond .ne 31, 3) := by decide +kernel
theorem dX7_rotate_12 : decode cX7_rotate 12 = .ok (.aload_n 0, 1) := by decide +kernel
theorem dX7_rotate_13 : decode cX7_rotate 13 = .ok (.iload_n 2, 1) := by decide +kernel
theorem dX7_rotate_14 : decode cX7_rotate 14 = .ok (.iconst 0, 1) := by decide +kernel
theorem dX7_rotate_15 : decode cX7_rotate 15 = .ok (.aload_n 0, 1) := by decide +kernel
theorem dX7_rotate_16 : decode cX7_rotate 16 = .ok (.getfield 9, 3) := by decide +kernel
theorem dX7_rotate_19 : decode cX7_rotate 19 = .ok (.iload_n 1, 1) := by decide +kernel
theorem dX7_rotate_20 : decode cX7_rotate 20 = .ok (.aaload, 1) := by decide +kernel
theorem dX7_rotate_21 : decode cX7_rotate 21 = .ok (.arraylength, 1) := by decide +kernel
theorem dX7_rotate_22 : decode cX7_rotate 22 = .ok (.invokestatic 29, 3) := by decide +kernel
theorem dX7_rotate_25 : decode cX7_rotate 25 = .ok (.ifCond .ne 7, 3) := by decide +kernel
theorem dX7_rotate_28 : decode cX7_rotate 28 = .ok (.iconst 1, 1) := by decide +kernel
theorem dX7_rotate_29 : decode cX7_rotate 29 = .ok (.goto 4, 3) := by decide +kernel
theorem dX7_rotate_32 : decode cX7_rotate 32 = .ok (.iconst 0, 1) := by decide +kernel
theorem dX7_rotate_33 : decode cX7_rotate 33 = .ok (.iconst 2, 1) := by decide +kernel
theorem dX7_rotate_34 : decode cX7_rotate 34 = .ok (.invokevirtual 25, 3) := by decide +kernel
theorem dX7_rotate_37 : decode cX7_rotate 37 = .ok (.ifCond .eq 5, 3) := by decide +kernel
theorem dX7_rotate_40 : decode cX7_rotate 40 = .ok (.iconst 0, 1) := by decide +kernel
theorem dX7_rotate_41 : decode cX7_rotate 41 = .ok (.ireturn, 1) := by decide +kernel
theorem dX7_rotate_42 : decode cX7_rotate 42 = .ok (.aload_n 0, 1) := by decide +kernel
theorem dX7_rotate_43 : decode cX7_rotate 43 = .ok (.getfield 9, 3) := by decide +kernel
theorem dX7_rotate_46 : decode cX7_rotate 46 = .ok (.iload_n 1, 1) := by decide +kernel
theorem dX7_rotate_47 : decode cX7_rotate 47 = .ok (.aaload, 1) := by decide +kernel
theorem dX7_rotate_48 : decode cX7_rotate 48 = .ok (.astore_n 3, 1) := by decide +kernel
theorem dX7_rotate_49 : decode cX7_rotate 49 = .ok (.aload_n 3, 1) := by decide +kernel
theorem dX7_rotate_50 : decode cX7_rotate 50 = .ok (.arraylength, 1) := by decide +kernel
theorem dX7_rotate_51 : decode cX7_rotate 51 = .ok (.newarray .int, 2) := by decide +kernel
theorem dX7_rotate_53 : decode cX7_rotate 53 = .ok (.astore 4, 2) := by decide +kernel
theorem dX7_rotate_55 : decode cX7_rotate 55 = .ok (.iconst 0, 1) := by decide +kernel
theorem dX7_rotate_56 : decode cX7_rotate 56 = .ok (.istore 5, 2) := by decide +kernel
theorem dX7_rotate_58 : decode cX7_rotate 58 = .ok (.iload 5, 2) := by decide +kernel
theorem dX7_rotate_60 : decode cX7_rotate 60 = .ok (.aload 4, 2) := by decide +kernel
theorem dX7_rotate_62 : decode cX7_rotate 62 = .ok (.arraylength, 1) := by decide +kernel
theorem dX7_rotate_63 : decode cX7_rotate 63 = .ok (.if_icmp .ge 23, 3) := by decide +kernel
theorem dX7_rotate_66 : decode cX7_rotate 66 = .ok (.aload 4, 2) := by decide +kernel
theorem dX7_rotate_68 : decode cX7_rotate 68 = .ok (.iload 5, 2) := by decide +kernel
theorem dX7_rotate_70 : decode cX7_rotate 70 = .ok (.aload_n 3, 1) := by decide +kernel
theorem dX7_rotate_71 : decode cX7_rotate 71 = .ok (.iload 5, 2) := by decide +kernel
theorem dX7_rotate_73 : decode cX7_rotate 73 = .ok (.iload_n 2, 1) := by decide +kernel
theorem dX7_rotate_74 : decode cX7_rotate 74 = .ok (.iadd, 1) := by decide +kernel
theorem dX7_rotate_75 : decode cX7_rotate 75 = .ok (.aload_n 3, 1) := by decide +kernel
theorem dX7_rotate_76 : decode cX7_rotate 76 = .ok (.arraylength, 1) := by decide +kernel
theorem dX7_rotate_77 : decode cX7_rotate 77 = .ok (.irem, 1) := by decide +kernel
theorem dX7_rotate_78 : decode cX7_rotate 78 = .ok (.iaload, 1) := by decide +kernel
theorem dX7_rotate_79 : decode cX7_rotate 79 = .ok (.iastore, 1) := by decide +kernel
theorem dX7_rotate_80 : decode cX7_rotate 80 = .ok (.iinc 5 1, 3) := by decide +kernel
theorem dX7_rotate_83 : decode cX7_rotate 83 = .ok (.goto (-25), 3) := by decide +kernel
theorem dX7_rotate_86 : decode cX7_rotate 86 = .ok (.aload_n 0, 1) := by decide +kernel
theorem dX7_rotate_87 : decode cX7_rotate 87 = .ok (.iload_n 1, 1) := by decide +kernel
theorem dX7_rotate_88 : decode cX7_rotate 88 = .ok (.aload 4, 2) := by decide +kernel
theorem dX7_rotate_90 : decode cX7_rotate 90 = .ok (.invokevirtual 97, 3) := by decide +kernel
theorem dX7_rotate_93 : decode cX7_rotate 93 = .ok (.ireturn, 1) := by decide +kernel
theorem dX7_copy_0 : decode cX7_copy 0 = .ok (.aload_n 0, 1) := by decide +kernel
theorem dX7_copy_1 : decode cX7_copy 1 = .ok (.iload_n 1, 1) := by decide +kernel
theorem dX7_copy_2 : decode cX7_copy 2 = .ok (.invokestatic 33, 3) := by decide +kernel
theorem dX7_copy_5 : decode cX7_copy 5 = .ok (.ifCond .ne 10, 3) := by decide +kernel
theorem dX7_copy_8 : decode cX7_copy 8 = .ok (.iload_n 2, 1) := by decide +kernel
theorem dX7_copy_9 : decode cX7_copy 9 = .ok (.invokestatic 33, 3) := by decide +kernel
theorem dX7_copy_12 : decode cX7_copy 12 = .ok (.ifCond .eq 7, 3) := by decide +kernel
theorem dX7_copy_15 : decode cX7_copy 15 = .ok (.iconst 1, 1) := by decide +kernel
theorem dX7_copy_16 : decode cX7_copy 16 = .ok (.goto 4, 3) := by decide +kernel
theorem dX7_copy_19 : decode cX7_copy 19 = .ok (.iconst 0, 1) := by decide +kernel
theorem dX7_copy_20 : decode cX7_copy 20 = .ok (.iconst 1, 1) := by decide +kernel
theorem dX7_copy_21 : decode cX7_copy 21 = .ok (.invokevirtual 51, 3) := by decide +kernel
theorem dX7_copy_24 : decode cX7_copy 24 = .ok (.ifCond .eq 5, 3) := by decide +kernel
theorem dX7_copy_27 : decode cX7_copy 27 = .ok (.iconst 0, 1) := by decide +kernel
theorem dX7_copy_28 : decode cX7_copy 28 = .ok (.ireturn, 1) := by decide +kernel
theorem dX7_copy_29 : decode cX7_copy 29 = .ok (.aload_n 0, 1) := by decide +kernel
theorem dX7_copy_30 : decode cX7_copy 30 = .ok (.iload_n 2, 1) := by decide +kernel
theorem dX7_copy_31 : decode cX7_copy 31 = .ok (.aload_n 0, 1) := by decide +kernel
theorem dX7_copy_32 : decode cX7_copy 32 = .ok (.getfield 9, 3) := by decide +kernel
theorem dX7_copy_35 : decode cX7_copy 35 = .ok (.iload_n 1, 1) := by decide +kernel
theorem dX7_copy_36 : decode cX7_copy 36 = .ok (.aaload, 1) := by decide +kernel
theorem dX7_copy_37 : decode cX7_copy 37 = .ok (.invokevirtual 97, 3) := by decide +kernel
theorem dX7_copy_40 : decode cX7_copy 40 = .ok (.ireturn, 1) := by decide +kernel
theorem dX7_isNoRule_0 : decode cX7_isNoRule 0 = .ok (.iload_n 0, 1) := by decide +kernel
theorem dX7_isNoRule_1 : decode cX7_isNoRule 1 = .ok (.iconst 2, 1) := by decide +kernel
theorem dX7_isNoRule_2 : decode cX7_isNoRule 2 = .ok (.bipush 31, 2) := by decide +kernel
theorem dX7_isNoRule_4 : decode cX7_isNoRule 4 = .ok (.invokestatic 29, 3) := by decide +kernel
theorem dX7_isNoRule_7 : decode cX7_isNoRule 7 = .ok (.ifCond .eq 13, 3) := by decide +kernel
theorem dX7_isNoRule_10 : decode cX7_isNoRule 10 = .ok (.iload_n 1, 1) := by decide +kernel
theorem dX7_isNoRule_11 : decode cX7_isNoRule 11 = .ok (.iconst 2, 1) := by decide +kernel
theorem dX7_isNoRule_12 : decode cX7_isNoRule 12 = .ok (.bipush 31, 2) := by decide +kernel
theorem dX7_isNoRule_14 : decode cX7_isNoRule 14 = .ok (.invokestatic 29, 3) := by decide +kernel
theorem dX7_isNoRule_17 : decode cX7_isNoRule 17 = .ok (.ifCond .ne 7, 3) := by decide +kernel
theorem dX7_isNoRule_20 : decode cX7_isNoRule 20 = .ok (.iconst 1, 1) := by decide +kernel
theorem dX7_isNoRule_21 : decode cX7_isNoRule 21 = .ok (.goto 4, 3) := by decide +kernel
theorem dX7_isNoRule_24 : decode cX7_isNoRule 24 = .ok (.iconst 0, 1) := by decide +kernel
theorem dX7_isNoRule_25 : decode cX7_isNoRule 25 = .ok (.ireturn, 1) := by decide +kernel
theorem dX7_apply_0 : decode cX7_apply 0 = .ok (.aload_n 0, 1) := by decide +kernel
theorem dX7_apply_1 : decode cX7_apply 1 = .ok (.iload_n 1, 1) := by decide +kernel
theorem dX7_apply_2 : decode cX7_apply 2 = .ok (.invokestatic 33, 3) := by decide +kernel
theorem dX7_apply_5 : decode cX7_apply 5 = .ok (.iconst 1, 1) := by decide +kernel
theorem dX7_apply_6 : decode cX7_apply 6 = .ok (.invokevirtual 51, 3) := by decide +kernel
theorem dX7_apply_9 : decode cX7_apply 9 = .ok (.ifCond .ne 16, 3) := by decide +kernel
theorem dX7_apply_12 : decode cX7_apply 12 = .ok (.aload_n 0, 1) := by decide +kernel
theorem dX7_apply_13 : decode cX7_apply 13 = .ok (.iload_n 2, 1) := by decide +kernel
theorem dX7_apply_14 : decode cX7_apply 14 = .ok (.iload_n 3, 1) := by decide +kernel
theorem dX7_apply_15 : decode cX7_apply 15 = .ok (.invokestatic 104, 3) := by decide +kernel
theorem dX7_apply_18 : decode cX7_apply 18 = .ok (.iconst 2, 1) := by decide +kernel
theorem dX7_apply_19 : decode cX7_apply 19 = .ok (.invokevirtual 25, 3) := by decide +kernel
theorem dX7_apply_22 : decode cX7_apply 22 = .ok (.ifCond .eq 5, 3) := by decide +kernel
theorem dX7_apply_25 : decode cX7_apply 25 = .ok (.iconst 0, 1) := by decide +kernel
theorem dX7_apply_26 : decode cX7_apply 26 = .ok (.ireturn, 1) := by decide +kernel
theorem dX7_apply_27 : decode cX7_apply 27 = .ok (.aload_n 0, 1) := by decide +kernel
theorem dX7_apply_28 : decode cX7_apply 28 = .ok (.getfield 9, 3) := by decide +kernel
theorem dX7_apply_31 : decode cX7_apply 31 = .ok (.iload_n 1, 1) := by decide +kernel
theorem dX7_apply_32 : decode cX7_apply 32 = .ok (.aaload, 1) := by decide +kernel
theorem dX7_apply_33 : decode cX7_apply 33 = .ok (.iload_n 2, 1) := by decide +kernel
theorem dX7_apply_34 : decode cX7_apply 34 = .ok (.invokestatic 55, 3) := by decide +kernel
theorem dX7_apply_37 : decode cX7_apply 37 = .ok (.iload_n 3, 1) := by decide +kernel
theorem dX7_apply_38 : decode cX7_apply 38 = .ok (.invokestatic 55, 3) := by decide +kernel
theorem dX7_apply_41 : decode cX7_apply 41 = .ok (.invokestatic 100, 3) := by decide +kernel
theorem dX7_apply_44 : decode cX7_apply 44 = .ok (.astore 4, 2) := by decide +kernel
theorem dX7_apply_46 : decode cX7_apply 46 = .ok (.aload 4, 2) := by decide +kernel
theorem dX7_apply_48 : decode cX7_apply 48 = .ok (.arraylength, 1) := by decide +kernel
theorem dX7_apply_49 : decode cX7_apply 49 = .ok (.bipush 64, 2) := by decide +kernel
theorem dX7_apply_51 : decode cX7_apply 51 = .ok (.if_icmp .le 10, 3) := by decide +kernel
theorem dX7_apply_54 : decode cX7_apply 54 = .ok (.aload_n 0, 1) := by decide +kernel
theorem dX7_apply_55 : decode cX7_apply 55 = .ok (.invokevirtual 63, 3) := by decide +kernel
theorem dX7_apply_58 : decode cX7_apply 58 = .ok (.goto 10, 3) := by decide +kernel
theorem dX7_apply_61 : decode cX7_apply 61 = .ok (.aload_n 0, 1) := by decide +kernel
theorem dX7_apply_62 : decode cX7_apply 62 = .ok (.iload_n 1, 1) := by decide +kernel
theorem dX7_apply_63 : decode cX7_apply 63 = .ok (.aload 4, 2) := by decide +kernel
theorem dX7_apply_65 : decode cX7_apply 65 = .ok (.invokevirtual 59, 3) := by decide +kernel
theorem dX7_apply_68 : decode cX7_apply 68 = .ok (.ireturn, 1) := by decide +kernel
theorem dX7_isApartRule_0 : decode cX7_isApartRule 0 = .ok (.iload_n 0, 1) := by decide +kernel
theorem dX7_isApartRule_1 : decode cX7_isApartRule 1 = .ok (.invokestatic 55, 3) := by decide +kernel
theorem dX7_isApartRule_4 : decode cX7_isApartRule 4 = .ok (.astore_n 2, 1) := by decide +kernel
theorem dX7_isApartRule_5 : decode cX7_isApartRule 5 = .ok (.iload_n 1, 1) := by decide +kernel
theorem dX7_isApartRule_6 : decode cX7_isApartRule 6 = .ok (.invokestatic 55, 3) := by decide +kernel
theorem dX7_isApartRule_9 : decode cX7_isApartRule 9 = .ok (.astore_n 3, 1) := by decide +kernel
theorem dX7_isApartRule_10 : decode cX7_isApartRule 10 = .ok (.aload_n 2, 1) := by decide +kernel
theorem dX7_isApartRule_11 : decode cX7_isApartRule 11 = .ok (.aload_n 2, 1) := by decide +kernel
theorem dX7_isApartRule_12 : decode cX7_isApartRule 12 = .ok (.arraylength, 1) := by decide +kernel
theorem dX7_isApartRule_13 : decode cX7_isApartRule 13 = .ok (.aload_n 2, 1) := by decide +kernel
theorem dX7_isApartRule_14 : decode cX7_isApartRule 14 = .ok (.arraylength, 1) := by decide +kernel
theorem dX7_isApartRule_15 : decode cX7_isApartRule 15 = .ok (.aload_n 3, 1) := by decide +kernel
theorem dX7_isApartRule_16 : decode cX7_isApartRule 16 = .ok (.invokestatic 67, 3) := by decide +kernel
theorem dX7_isApartRule_19 : decode cX7_isApartRule 19 = .ok (.aload_n 3, 1) := by decide +kernel
theorem dX7_isApartRule_20 : decode cX7_isApartRule 20 = .ok (.aload_n 3, 1) := by decide +kernel
theorem dX7_isApartRule_21 : decode cX7_isApartRule 21 = .ok (.arraylength, 1) := by decide +kernel
theorem dX7_isApartRule_22 : decode cX7_isApartRule 22 = .ok (.aload_n 3, 1) := by decide +kernel
theorem dX7_isApartRule_23 : decode cX7_isApartRule 23 = .ok (.arraylength, 1) := by decide +kernel
theorem dX7_isApartRule_24 : decode cX7_isApartRule 24 = .ok (.aload_n 2, 1) := by decide +kernel
theorem dX7_isApartRule_25 : decode cX7_isApartRule 25 = .ok (.invokestatic 67, 3) := by decide +kernel
theorem dX7_isApartRule_28 : decode cX7_isApartRule 28 = .ok (.invokestatic 89, 3) := by decide +kernel
theorem dX7_isApartRule_31 : decode cX7_isApartRule 31 = .ok (.ifCond .ne 7, 3) := by decide +kernel
theorem dX7_isApartRule_34 : decode cX7_isApartRule 34 = .ok (.iconst 1, 1) := by decide +kernel
theorem dX7_isApartRule_35 : decode cX7_isApartRule 35 = .ok (.goto 4, 3) := by decide +kernel
theorem dX7_isApartRule_38 : decode cX7_isApartRule 38 = .ok (.iconst 0, 1) := by decide +kernel
theorem dX7_isApartRule_39 : decode cX7_isApartRule 39 = .ok (.ireturn, 1) := by decide +kernel
theorem dX7_steps_0 : decode cX7_steps 0 = .ok (.aload_n 0, 1) := by decide +kernel
theorem dX7_steps_1 : decode cX7_steps 1 = .ok (.arraylength, 1) := by decide +kernel
theorem dX7_steps_2 : decode cX7_steps 2 = .ok (.iconst 1, 1) := by decide +kernel
theorem dX7_steps_3 : decode cX7_steps 3 = .ok (.iadd, 1) := by decide +kernel
theorem dX7_steps_4 : decode cX7_steps 4 = .ok (.newarray .int, 2) := by decide +kernel
theorem dX7_steps_6 : decode cX7_steps 6 = .ok (.astore_n 3, 1) := by decide +kernel
theorem dX7_steps_7 : decode cX7_steps 7 = .ok (.aload_n 0, 1) := by decide +kernel
theorem dX7_steps_8 : decode cX7_steps 8 = .ok (.arraylength, 1) := by decide +kernel
theorem dX7_steps_9 : decode cX7_steps 9 = .ok (.iconst 1, 1) := by decide +kernel
theorem dX7_steps_10 : decode cX7_steps 10 = .ok (.isub, 1) := by decide +kernel
theorem dX7_steps_11 : decode cX7_steps 11 = .ok (.istore 4, 2) := by decide +kernel
theorem dX7_steps_13 : decode cX7_steps 13 = .ok (.iload 4, 2) := by decide +kernel
theorem dX7_steps_15 : decode cX7_steps 15 = .ok (.ifCond .lt 106, 3) := by decide +kernel
theorem dX7_steps_18 : decode cX7_steps 18 = .ok (.aload_n 0, 1) := by decide +kernel
theorem dX7_steps_19 : decode cX7_steps 19 = .ok (.aload_n 1, 1) := by decide +kernel
theorem dX7_steps_20 : decode cX7_steps 20 = .ok (.iload 4, 2) := by decide +kernel
theorem dX7_steps_22 : decode cX7_steps 22 = .ok (.invokestatic 37, 3) := by decide +kernel
theorem dX7_steps_25 : decode cX7_steps 25 = .ok (.ifCond .eq 27, 3) := by decide +kernel
theorem dX7_steps_28 : decode cX7_steps 28 = .ok (.iload 4, 2) := by decide +kernel
theorem dX7_steps_30 : decode cX7_steps 30 = .ok (.aload_n 1, 1) := by decide +kernel
theorem dX7_steps_31 : decode cX7_steps 31 = .ok (.arraylength, 1) := by decide +kernel
theorem dX7_steps_32 : decode cX7_steps 32 = .ok (.iadd, 1) := by decide +kernel
theorem dX7_steps_33 : decode cX7_steps 33 = .ok (.aload_n 0, 1) := by decide +kernel
theorem dX7_steps_34 : decode cX7_steps 34 = .ok (.arraylength, 1) := by decide +kernel
theorem dX7_steps_35 : decode cX7_steps 35 = .ok (.if_icmp .eq 13, 3) := by decide +kernel
theorem dX7_steps_38 : decode cX7_steps 38 = .ok (.aload_n 3, 1) := by decide +kernel
theorem dX7_steps_39 : decode cX7_steps 39 = .ok (.iload 4, 2) := by decide +kernel
theorem dX7_steps_41 : decode cX7_steps 41 = .ok (.aload_n 1, 1) := by decide +kernel
theorem dX7_steps_42 : decode cX7_steps 42 = .ok (.arraylength, 1) := by decide +kernel
theorem dX7_steps_43 : decode cX7_steps 43 = .ok (.iadd, 1) := by decide +kernel
theorem dX7_steps_44 : decode cX7_steps 44 = .ok (.iaload, 1) := by decide +kernel
theorem dX7_steps_45 : decode cX7_steps 45 = .ok (.ifCond .le 7, 3) := by decide +kernel
theorem dX7_steps_48 : decode cX7_steps 48 = .ok (.iconst 1, 1) := by decide +kernel
theorem dX7_steps_49 : decode cX7_steps 49 = .ok (.goto 4, 3) := by decide +kernel
theorem dX7_steps_52 : decode cX7_steps 52 = .ok (.iconst 0, 1) := by decide +kernel
theorem dX7_steps_53 : decode cX7_steps 53 = .ok (.istore 5, 2) := by decide +kernel
theorem dX7_steps_55 : decode cX7_steps 55 = .ok (.aload_n 0, 1) := by decide +kernel
theorem dX7_steps_56 : decode cX7_steps 56 = .ok (.aload_n 2, 1) := by decide +kernel
theorem dX7_steps_57 : decode cX7_steps 57 = .ok (.iload 4, 2) := by decide +kernel
theorem dX7_steps_59 : decode cX7_steps 59 = .ok (.invokestatic 37, 3) := by decide +kernel
theorem dX7_steps_62 : decode cX7_steps 62 = .ok (.ifCond .eq 27, 3) := by decide +kernel
theorem dX7_steps_65 : decode cX7_steps 65 = .ok (.iload 4, 2) := by decide +kernel
theorem dX7_steps_67 : decode cX7_steps 67 = .ok (.aload_n 2, 1) := by decide +kernel
theorem dX7_steps_68 : decode cX7_steps 68 = .ok (.arraylength, 1) := by decide +kernel
theorem dX7_steps_69 : decode cX7_steps 69 = .ok (.iadd, 1) := by decide +kernel
theorem dX7_steps_70 : decode cX7_steps 70 = .ok (.aload_n 0, 1) := by decide +kernel
theorem dX7_steps_71 : decode cX7_steps 71 = .ok (.arraylength, 1) := by decide +kernel
theorem dX7_steps_72 : decode cX7_steps 72 = .ok (.if_icmp .eq 13, 3) := by decide +kernel
theorem dX7_steps_75 : decode cX7_steps 75 = .ok (.aload_n 3, 1) := by decide +kernel
theorem dX7_steps_76 : decode cX7_steps 76 = .ok (.iload 4, 2) := by decide +kernel
theorem dX7_steps_78 : decode cX7_steps 78 = .ok (.aload_n 2, 1) := by decide +kernel
theorem dX7_steps_79 : decode cX7_steps 79 = .ok (.arraylength, 1) := by decide +kernel
theorem dX7_steps_80 : decode cX7_steps 80 = .ok (.iadd, 1) := by decide +kernel
theorem dX7_steps_81 : decode cX7_steps 81 = .ok (.iaload, 1) := by decide +kernel
theorem dX7_steps_82 : decode cX7_steps 82 = .ok (.ifCond .le 7, 3) := by decide +kernel
theorem dX7_steps_85 : decode cX7_steps 85 = .ok (.iconst 1, 1) := by decide +kernel
theorem dX7_steps_86 : decode cX7_steps 86 = .ok (.goto 4, 3) := by decide +kernel
theorem dX7_steps_89 : decode cX7_steps 89 = .ok (.iconst 0, 1) := by decide +kernel
theorem dX7_steps_90 : decode cX7_steps 90 = .ok (.istore 6, 2) := by decide +kernel
theorem dX7_steps_92 : decode cX7_steps 92 = .ok (.aload_n 3, 1) := by decide +kernel
theorem dX7_steps_93 : decode cX7_steps 93 = .ok (.iload 4, 2) := by decide +kernel
theorem dX7_steps_95 : decode cX7_steps 95 = .ok (.iload 5, 2) := by decide +kernel
theorem dX7_steps_97 : decode cX7_steps 97 = .ok (.ifCond .eq 7, 3) := by decide +kernel
theorem dX7_steps_100 : decode cX7_steps 100 = .ok (.iconst 1, 1) := by decide +kernel
theorem dX7_steps_101 : decode cX7_steps 101 = .ok (.goto 13, 3) := by decide +kernel
theorem dX7_steps_104 : decode cX7_steps 104 = .ok (.iload 6, 2) := by decide +kernel
theorem dX7_steps_106 : decode cX7_steps 106 = .ok (.ifCond .eq 7, 3) := by decide +kernel
theorem dX7_steps_109 : decode cX7_steps 109 = .ok (.iconst 2, 1) := by decide +kernel
theorem dX7_steps_110 : decode cX7_steps 110 = .ok (.goto 4, 3) := by decide +kernel
theorem dX7_steps_113 : decode cX7_steps 113 = .ok (.iconst 0, 1) := by decide +kernel
theorem dX7_steps_114 : decode cX7_steps 114 = .ok (.iastore, 1) := by decide +kernel
theorem dX7_steps_115 : decode cX7_steps 115 = .ok (.iinc 4 (-1), 3) := by decide +kernel
theorem dX7_steps_118 : decode cX7_steps 118 = .ok (.goto (-105), 3) := by decide +kernel
theorem dX7_steps_121 : decode cX7_steps 121 = .ok (.aload_n 3, 1) := by decide +kernel
theorem dX7_steps_122 : decode cX7_steps 122 = .ok (.areturn, 1) := by decide +kernel
theorem dX7_undo_0 : decode cX7_undo 0 = .ok (.aload_n 0, 1) := by decide +kernel
theorem dX7_undo_1 : decode cX7_undo 1 = .ok (.iload_n 1, 1) := by decide +kernel
theorem dX7_undo_2 : decode cX7_undo 2 = .ok (.invokestatic 33, 3) := by decide +kernel
theorem dX7_undo_5 : decode cX7_undo 5 = .ok (.iconst 1, 1) := by decide +kernel
theorem dX7_undo_6 : decode cX7_undo 6 = .ok (.invokevirtual 51, 3) := by decide +kernel
theorem dX7_undo_9 : decode cX7_undo 9 = .ok (.ifCond .ne 37, 3) := by decide +kernel
theorem dX7_undo_12 : decode cX7_undo 12 = .ok (.aload_n 0, 1) := by decide +kernel
theorem dX7_undo_13 : decode cX7_undo 13 = .ok (.iload_n 2, 1) := by decide +kernel
theorem dX7_undo_14 : decode cX7_undo 14 = .ok (.iload_n 3, 1) := by decide +kernel
theorem dX7_undo_15 : decode cX7_undo 15 = .ok (.invokestatic 104, 3) := by decide +kernel
theorem dX7_undo_18 : decode cX7_undo 18 = .ok (.iconst 2, 1) := by decide +kernel
theorem dX7_undo_19 : decode cX7_undo 19 = .ok (.invokevirtual 25, 3) := by decide +kernel
theorem dX7_undo_22 : decode cX7_undo 22 = .ok (.ifCond .ne 24, 3) := by decide +kernel
theorem dX7_undo_25 : decode cX7_undo 25 = .ok (.aload_n 0, 1) := by decide +kernel
theorem dX7_undo_26 : decode cX7_undo 26 = .ok (.iload_n 2, 1) := by decide +kernel
theorem dX7_undo_27 : decode cX7_undo 27 = .ok (.iload_n 3, 1) := by decide +kernel
theorem dX7_undo_28 : decode cX7_undo 28 = .ok (.invokestatic 107, 3) := by decide +kernel
theorem dX7_undo_31 : decode cX7_undo 31 = .ok (.ifCond .ne 7, 3) := by decide +kernel
theorem dX7_undo_34 : decode cX7_undo 34 = .ok (.iconst 1, 1) := by decide +kernel
theorem dX7_undo_35 : decode cX7_undo 35 = .ok (.goto 4, 3) := by decide +kernel
theorem dX7_undo_38 : decode cX7_undo 38 = .ok (.iconst 0, 1) := by decide +kernel
theorem dX7_undo_39 : decode cX7_undo 39 = .ok (.iconst 3, 1) := by decide +kernel
theorem dX7_undo_40 : decode cX7_undo 40 = .ok (.invokevirtual 25, 3) := by decide +kernel
theorem dX7_undo_43 : decode cX7_undo 43 = .ok (.ifCond .eq 5, 3) := by decide +kernel
theorem dX7_undo_46 : decode cX7_undo 46 = .ok (.iconst 0, 1) := by decide +kernel
theorem dX7_undo_47 : decode cX7_undo 47 = .ok (.ireturn, 1) := by decide +kernel
theorem dX7_undo_48 : decode cX7_undo 48 = .ok (.aload_n 0, 1) := by decide +kernel
theorem dX7_undo_49 : decode cX7_undo 49 = .ok (.getfield 9, 3) := by decide +kernel
theorem dX7_undo_52 : decode cX7_undo 52 = .ok (.iload_n 1, 1) := by decide +kernel
theorem dX7_undo_53 : decode cX7_undo 53 = .ok (.aaload, 1) := by decide +kernel
theorem dX7_undo_54 : decode cX7_undo 54 = .ok (.astore 4, 2) := by decide +kernel
theorem dX7_undo_56 : decode cX7_undo 56 = .ok (.iload_n 2, 1) := by decide +kernel
theorem dX7_undo_57 : decode cX7_undo 57 = .ok (.invokestatic 55, 3) := by decide +kernel
theorem dX7_undo_60 : decode cX7_undo 60 = .ok (.astore 5, 2) := by decide +kernel
theorem dX7_undo_62 : decode cX7_undo 62 = .ok (.iload_n 3, 1) := by decide +kernel
theorem dX7_undo_63 : decode cX7_undo 63 = .ok (.invokestatic 55, 3) := by decide +kernel
theorem dX7_undo_66 : decode cX7_undo 66 = .ok (.astore 6, 2) := by decide +kernel
theorem dX7_undo_68 : decode cX7_undo 68 = .ok (.aload 4, 2) := by decide +kernel
theorem dX7_undo_70 : decode cX7_undo 70 = .ok (.aload 5, 2) := by decide +kernel
theorem dX7_undo_72 : decode cX7_undo 72 = .ok (.aload 6, 2) := by decide +kernel
theorem dX7_undo_74 : decode cX7_undo 74 = .ok (.invokestatic 110, 3) := by decide +kernel
theorem dX7_undo_77 : decode cX7_undo 77 = .ok (.astore 7, 2) := by decide +kernel
theorem dX7_undo_79 : decode cX7_undo 79 = .ok (.aload 4, 2) := by decide +kernel
theorem dX7_undo_81 : decode cX7_undo 81 = .ok (.arraylength, 1) := by decide +kernel
theorem dX7_undo_82 : decode cX7_undo 82 = .ok (.ifCond .le 15, 3) := by decide +kernel
theorem dX7_undo_85 : decode cX7_undo 85 = .ok (.aload 7, 2) := by decide +kernel
theorem dX7_undo_87 : decode cX7_undo 87 = .ok (.iconst 0, 1) := by decide +kernel
theorem dX7_undo_88 : decode cX7_undo 88 = .ok (.iaload, 1) := by decide +kernel
theorem dX7_undo_89 : decode cX7_undo 89 = .ok (.ifCond .ne 8, 3) := by decide +kernel
theorem dX7_undo_92 : decode cX7_undo 92 = .ok (.aload_n 0, 1) := by decide +kernel
theorem dX7_undo_93 : decode cX7_undo 93 = .ok (.invokevirtual 63, 3) := by decide +kernel
theorem dX7_undo_96 : decode cX7_undo 96 = .ok (.ireturn, 1) := by decide +kernel
theorem dX7_undo_97 : decode cX7_undo 97 = .ok (.iconst 0, 1) := by decide +kernel
theorem dX7_undo_98 : decode cX7_undo 98 = .ok (.istore 8, 2) := by decide +kernel
theorem dX7_undo_100 : decode cX7_undo 100 = .ok (.iconst 0, 1) := by decide +kernel
theorem dX7_undo_101 : decode cX7_undo 101 = .ok (.istore 9, 2) := by decide +kernel
theorem dX7_undo_103 : decode cX7_undo 103 = .ok (.iload 9, 2) := by decide +kernel
theorem dX7_undo_105 : decode cX7_undo 105 = .ok (.aload 4, 2) := by decide +kernel
theorem dX7_undo_107 : decode cX7_undo 107 = .ok (.arraylength, 1) := by decide +kernel
theorem dX7_undo_108 : decode cX7_undo 108 = .ok (.if_icmp .ge 32, 3) := by decide +kernel
theorem dX7_undo_111 : decode cX7_undo 111 = .ok (.iinc 8 1, 3) := by decide +kernel
theorem dX7_undo_114 : decode cX7_undo 114 = .ok (.iload 9, 2) := by decide +kernel
theorem dX7_undo_116 : decode cX7_undo 116 = .ok (.aload 7, 2) := by decide +kernel
theorem dX7_undo_118 : decode cX7_undo 118 = .ok (.iload 9, 2) := by decide +kernel
theorem dX7_undo_120 : decode cX7_undo 120 = .ok (.iaload, 1) := by decide +kernel
theorem dX7_undo_121 : decode cX7_undo 121 = .ok (.iconst 1, 1) := by decide +kernel
theorem dX7_undo_122 : decode cX7_undo 122 = .ok (.if_icmp .ne 9, 3) := by decide +kernel
theorem dX7_undo_125 : decode cX7_undo 125 = .ok (.aload 5, 2) := by decide +kernel
theorem dX7_undo_127 : decode cX7_undo 127 = .ok (.arraylength, 1) := by decide +kernel
theorem dX7_undo_128 : decode cX7_undo 128 = .ok (.goto 6, 3) := by decide +kernel
theorem dX7_undo_131 : decode cX7_undo 131 = .ok (.aload 6, 2) := by decide +kernel
theorem dX7_undo_133 : decode cX7_undo 133 = .ok (.arraylength, 1) := by decide +kernel
theorem dX7_undo_134 : decode cX7_undo 134 = .ok (.iadd, 1) := by decide +kernel
theorem dX7_undo_135 : decode cX7_undo 135 = .ok (.istore 9, 2) := by decide +kernel
theorem dX7_undo_137 : decode cX7_undo 137 = .ok (.goto (-34), 3) := by decide +kernel
theorem dX7_undo_140 : decode cX7_undo 140 = .ok (.iload 8, 2) := by decide +kernel
theorem dX7_undo_142 : decode cX7_undo 142 = .ok (.newarray .int, 2) := by decide +kernel
theorem dX7_undo_144 : decode cX7_undo 144 = .ok (.astore 9, 2) := by decide +kernel
theorem dX7_undo_146 : decode cX7_undo 146 = .ok (.iconst 0, 1) := by decide +kernel
