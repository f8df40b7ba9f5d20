theorem dX5_length_8 : decode cX5_length 8 = .ok (.ireturn, 1) := by decide +kernel
theorem dX5_isB_0 : decode cX5_isB 0 = .ok (.aload_n 0, 1) := by decide +kernel
theorem dX5_isB_1 : decode cX5_isB 1 = .ok (.iload_n 1, 1) := by decide +kernel
theorem dX5_isB_2 : decode cX5_isB 2 = .ok (.invokevirtual 37, 3) := by decide +kernel
theorem dX5_isB_5 : decode cX5_isB 5 = .ok (.astore_n 3, 1) := by decide +kernel
theorem dX5_isB_6 : decode cX5_isB 6 = .ok (.iload_n 2, 1) := by decide +kernel
theorem dX5_isB_7 : decode cX5_isB 7 = .ok (.ifCond .lt 15, 3) := by decide +kernel
theorem dX5_isB_10 : decode cX5_isB 10 = .ok (.iload_n 2, 1) := by decide +kernel
theorem dX5_isB_11 : decode cX5_isB 11 = .ok (.aload_n 3, 1) := by decide +kernel
theorem dX5_isB_12 : decode cX5_isB 12 = .ok (.getfield 50, 3) := by decide +kernel
theorem dX5_isB_15 : decode cX5_isB 15 = .ok (.if_icmp .ge 7, 3) := by decide +kernel
theorem dX5_isB_18 : decode cX5_isB 18 = .ok (.iconst 1, 1) := by decide +kernel
theorem dX5_isB_19 : decode cX5_isB 19 = .ok (.goto 4, 3) := by decide +kernel
theorem dX5_isB_22 : decode cX5_isB 22 = .ok (.iconst 0, 1) := by decide +kernel
theorem dX5_isB_23 : decode cX5_isB 23 = .ok (.invokestatic 62, 3) := by decide +kernel
theorem dX5_isB_26 : decode cX5_isB 26 = .ok (.aload_n 3, 1) := by decide +kernel
theorem dX5_isB_27 : decode cX5_isB 27 = .ok (.iload_n 2, 1) := by decide +kernel
theorem dX5_isB_28 : decode cX5_isB 28 = .ok (.invokevirtual 71, 3) := by decide +kernel
theorem dX5_isB_31 : decode cX5_isB 31 = .ok (.ireturn, 1) := by decide +kernel
theorem dX5_count_0 : decode cX5_count 0 = .ok (.aload_n 0, 1) := by decide +kernel
theorem dX5_count_1 : decode cX5_count 1 = .ok (.iload_n 1, 1) := by decide +kernel
theorem dX5_count_2 : decode cX5_count 2 = .ok (.invokevirtual 37, 3) := by decide +kernel
theorem dX5_count_5 : decode cX5_count 5 = .ok (.astore_n 3, 1) := by decide +kernel
theorem dX5_count_6 : decode cX5_count 6 = .ok (.aload_n 3, 1) := by decide +kernel
theorem dX5_count_7 : decode cX5_count 7 = .ok (.invokestatic 108, 3) := by decide +kernel
theorem dX5_count_10 : decode cX5_count 10 = .ok (.istore 4, 2) := by decide +kernel
theorem dX5_count_12 : decode cX5_count 12 = .ok (.iload_n 2, 1) := by decide +kernel
theorem dX5_count_13 : decode cX5_count 13 = .ok (.ifCond .eq 8, 3) := by decide +kernel
theorem dX5_count_16 : decode cX5_count 16 = .ok (.iload 4, 2) := by decide +kernel
theorem dX5_count_18 : decode cX5_count 18 = .ok (.goto 10, 3) := by decide +kernel
theorem dX5_count_21 : decode cX5_count 21 = .ok (.aload_n 3, 1) := by decide +kernel
theorem dX5_count_22 : decode cX5_count 22 = .ok (.getfield 50, 3) := by decide +kernel
theorem dX5_count_25 : decode cX5_count 25 = .ok (.iload 4, 2) := by decide +kernel
theorem dX5_count_27 : decode cX5_count 27 = .ok (.isub, 1) := by decide +kernel
theorem dX5_count_28 : decode cX5_count 28 = .ok (.ireturn, 1) := by decide +kernel
theorem dX5_find_0 : decode cX5_find 0 = .ok (.aload_n 0, 1) := by decide +kernel
theorem dX5_find_1 : decode cX5_find 1 = .ok (.iload_n 1, 1) := by decide +kernel
theorem dX5_find_2 : decode cX5_find 2 = .ok (.invokevirtual 37, 3) := by decide +kernel
theorem dX5_find_5 : decode cX5_find 5 = .ok (.astore 4, 2) := by decide +kernel
theorem dX5_find_7 : decode cX5_find 7 = .ok (.aload_n 0, 1) := by decide +kernel
theorem dX5_find_8 : decode cX5_find 8 = .ok (.iload_n 2, 1) := by decide +kernel
theorem dX5_find_9 : decode cX5_find 9 = .ok (.invokevirtual 37, 3) := by decide +kernel
theorem dX5_find_12 : decode cX5_find 12 = .ok (.astore 5, 2) := by decide +kernel
theorem dX5_find_14 : decode cX5_find 14 = .ok (.iload_n 3, 1) := by decide +kernel
theorem dX5_find_15 : decode cX5_find 15 = .ok (.ifCond .lt 16, 3) := by decide +kernel
theorem dX5_find_18 : decode cX5_find 18 = .ok (.iload_n 3, 1) := by decide +kernel
theorem dX5_find_19 : decode cX5_find 19 = .ok (.aload 4, 2) := by decide +kernel
theorem dX5_find_21 : decode cX5_find 21 = .ok (.getfield 50, 3) := by decide +kernel
theorem dX5_find_24 : decode cX5_find 24 = .ok (.if_icmp .gt 7, 3) := by decide +kernel
theorem dX5_find_27 : decode cX5_find 27 = .ok (.iconst 1, 1) := by decide +kernel
theorem dX5_find_28 : decode cX5_find 28 = .ok (.goto 4, 3) := by decide +kernel
theorem dX5_find_31 : decode cX5_find 31 = .ok (.iconst 0, 1) := by decide +kernel
theorem dX5_find_32 : decode cX5_find 32 = .ok (.invokestatic 62, 3) := by decide +kernel
theorem dX5_find_35 : decode cX5_find 35 = .ok (.iload_n 3, 1) := by decide +kernel
theorem dX5_find_36 : decode cX5_find 36 = .ok (.istore 6, 2) := by decide +kernel
theorem dX5_find_38 : decode cX5_find 38 = .ok (.iload 6, 2) := by decide +kernel
theorem dX5_find_40 : decode cX5_find 40 = .ok (.aload 4, 2) := by decide +kernel
theorem dX5_find_42 : decode cX5_find 42 = .ok (.getfield 50, 3) := by decide +kernel
theorem dX5_find_45 : decode cX5_find 45 = .ok (.if_icmp .gt 24, 3) := by decide +kernel
theorem dX5_find_48 : decode cX5_find 48 = .ok (.aload 4, 2) := by decide +kernel
theorem dX5_find_50 : decode cX5_find 50 = .ok (.iload 6, 2) := by decide +kernel
theorem dX5_find_52 : decode cX5_find 52 = .ok (.aload 5, 2) := by decide +kernel
theorem dX5_find_54 : decode cX5_find 54 = .ok (.invokestatic 191, 3) := by decide +kernel
theorem dX5_find_57 : decode cX5_find 57 = .ok (.ifCond .eq 6, 3) := by decide +kernel
theorem dX5_find_60 : decode cX5_find 60 = .ok (.iload 6, 2) := by decide +kernel
theorem dX5_find_62 : decode cX5_find 62 = .ok (.ireturn, 1) := by decide +kernel
theorem dX5_find_63 : decode cX5_find 63 = .ok (.iinc 6 1, 3) := by decide +kernel
theorem dX5_find_66 : decode cX5_find 66 = .ok (.goto (-28), 3) := by decide +kernel
theorem dX5_find_69 : decode cX5_find 69 = .ok (.iconst (-1), 1) := by decide +kernel
theorem dX5_find_70 : decode cX5_find 70 = .ok (.ireturn, 1) := by decide +kernel
theorem dX5_order_0 : decode cX5_order 0 = .ok (.aload_n 0, 1) := by decide +kernel
theorem dX5_order_1 : decode cX5_order 1 = .ok (.iload_n 1, 1) := by decide +kernel
theorem dX5_order_2 : decode cX5_order 2 = .ok (.invokevirtual 37, 3) := by decide +kernel
theorem dX5_order_5 : decode cX5_order 5 = .ok (.aload_n 0, 1) := by decide +kernel
theorem dX5_order_6 : decode cX5_order 6 = .ok (.iload_n 2, 1) := by decide +kernel
theorem dX5_order_7 : decode cX5_order 7 = .ok (.invokevirtual 37, 3) := by decide +kernel
theorem dX5_order_10 : decode cX5_order 10 = .ok (.invokestatic 195, 3) := by decide +kernel
theorem dX5_order_13 : decode cX5_order 13 = .ok (.ireturn, 1) := by decide +kernel
theorem dX5_isMirrored_0 : decode cX5_isMirrored 0 = .ok (.aload_n 0, 1) := by decide +kernel
theorem dX5_isMirrored_1 : decode cX5_isMirrored 1 = .ok (.iload_n 1, 1) := by decide +kernel
theorem dX5_isMirrored_2 : decode cX5_isMirrored 2 = .ok (.invokevirtual 37, 3) := by decide +kernel
theorem dX5_isMirrored_5 : decode cX5_isMirrored 5 = .ok (.astore_n 2, 1) := by decide +kernel
theorem dX5_isMirrored_6 : decode cX5_isMirrored 6 = .ok (.aload_n 2, 1) := by decide +kernel
theorem dX5_isMirrored_7 : decode cX5_isMirrored 7 = .ok (.iconst 0, 1) := by decide +kernel
theorem dX5_isMirrored_8 : decode cX5_isMirrored 8 = .ok (.aload_n 2, 1) := by decide +kernel
theorem dX5_isMirrored_9 : decode cX5_isMirrored 9 = .ok (.getfield 50, 3) := by decide +kernel
theorem dX5_isMirrored_12 : decode cX5_isMirrored 12 = .ok (.invokestatic 198, 3) := by decide +kernel
theorem dX5_isMirrored_15 : decode cX5_isMirrored 15 = .ok (.ireturn, 1) := by decide +kernel
theorem dX5_spread_0 : decode cX5_spread 0 = .ok (.aload_n 0, 1) := by decide +kernel
theorem dX5_spread_1 : decode cX5_spread 1 = .ok (.iload_n 1, 1) := by decide +kernel
theorem dX5_spread_2 : decode cX5_spread 2 = .ok (.invokevirtual 37, 3) := by decide +kernel
theorem dX5_spread_5 : decode cX5_spread 5 = .ok (.astore 4, 2) := by decide +kernel
theorem dX5_spread_7 : decode cX5_spread 7 = .ok (.iload_n 2, 1) := by decide +kernel
theorem dX5_spread_8 : decode cX5_spread 8 = .ok (.ifCond .lt 16, 3) := by decide +kernel
theorem dX5_spread_11 : decode cX5_spread 11 = .ok (.iload_n 2, 1) := by decide +kernel
theorem dX5_spread_12 : decode cX5_spread 12 = .ok (.aload 4, 2) := by decide +kernel
theorem dX5_spread_14 : decode cX5_spread 14 = .ok (.getfield 50, 3) := by decide +kernel
theorem dX5_spread_17 : decode cX5_spread 17 = .ok (.if_icmp .gt 7, 3) := by decide +kernel
theorem dX5_spread_20 : decode cX5_spread 20 = .ok (.iconst 1, 1) := by decide +kernel
theorem dX5_spread_21 : decode cX5_spread 21 = .ok (.goto 4, 3) := by decide +kernel
theorem dX5_spread_24 : decode cX5_spread 24 = .ok (.iconst 0, 1) := by decide +kernel
theorem dX5_spread_25 : decode cX5_spread 25 = .ok (.invokestatic 42, 3) := by decide +kernel
theorem dX5_spread_28 : decode cX5_spread 28 = .ok (.aload 4, 2) := by decide +kernel
theorem dX5_spread_30 : decode cX5_spread 30 = .ok (.iload_n 2, 1) := by decide +kernel
theorem dX5_spread_31 : decode cX5_spread 31 = .ok (.iload_n 3, 1) := by decide +kernel
theorem dX5_spread_32 : decode cX5_spread 32 = .ok (.invokestatic 202, 3) := by decide +kernel
theorem dX5_spread_35 : decode cX5_spread 35 = .ok (.ireturn, 1) := by decide +kernel
theorem dX5_kinds_0 : decode cX5_kinds 0 = .ok (.aload_n 0, 1) := by decide +kernel
theorem dX5_kinds_1 : decode cX5_kinds 1 = .ok (.iload_n 1, 1) := by decide +kernel
theorem dX5_kinds_2 : decode cX5_kinds 2 = .ok (.invokevirtual 37, 3) := by decide +kernel
theorem dX5_kinds_5 : decode cX5_kinds 5 = .ok (.astore 4, 2) := by decide +kernel
theorem dX5_kinds_7 : decode cX5_kinds 7 = .ok (.iload_n 2, 1) := by decide +kernel
theorem dX5_kinds_8 : decode cX5_kinds 8 = .ok (.ifCond .lt 16, 3) := by decide +kernel
theorem dX5_kinds_11 : decode cX5_kinds 11 = .ok (.iload_n 2, 1) := by decide +kernel
theorem dX5_kinds_12 : decode cX5_kinds 12 = .ok (.aload 4, 2) := by decide +kernel
theorem dX5_kinds_14 : decode cX5_kinds 14 = .ok (.getfield 50, 3) := by decide +kernel
theorem dX5_kinds_17 : decode cX5_kinds 17 = .ok (.if_icmp .gt 7, 3) := by decide +kernel
theorem dX5_kinds_20 : decode cX5_kinds 20 = .ok (.iconst 1, 1) := by decide +kernel
theorem dX5_kinds_21 : decode cX5_kinds 21 = .ok (.goto 4, 3) := by decide +kernel
theorem dX5_kinds_24 : decode cX5_kinds 24 = .ok (.iconst 0, 1) := by decide +kernel
theorem dX5_kinds_25 : decode cX5_kinds 25 = .ok (.invokestatic 42, 3) := by decide +kernel
theorem dX5_kinds_28 : decode cX5_kinds 28 = .ok (.aload 4, 2) := by decide +kernel
theorem dX5_kinds_30 : decode cX5_kinds 30 = .ok (.iload_n 2, 1) := by decide +kernel
theorem dX5_kinds_31 : decode cX5_kinds 31 = .ok (.iload_n 3, 1) := by decide +kernel
theorem dX5_kinds_32 : decode cX5_kinds 32 = .ok (.invokestatic 206, 3) := by decide +kernel
theorem dX5_kinds_35 : decode cX5_kinds 35 = .ok (.ireturn, 1) := by decide +kernel
theorem dX5_times_0 : decode cX5_times 0 = .ok (.aload_n 0, 1) := by decide +kernel
theorem dX5_times_1 : decode cX5_times 1 = .ok (.iload_n 1, 1) := by decide +kernel
theorem dX5_times_2 : decode cX5_times 2 = .ok (.invokevirtual 37, 3) := by decide +kernel
theorem dX5_times_5 : decode cX5_times 5 = .ok (.invokestatic 209, 3) := by decide +kernel
theorem dX5_times_8 : decode cX5_times 8 = .ok (.ireturn, 1) := by decide +kernel
theorem dX5_overlaps_0 : decode cX5_overlaps 0 = .ok (.aload_n 0, 1) := by decide +kernel
theorem dX5_overlaps_1 : decode cX5_overlaps 1 = .ok (.iload_n 1, 1) := by decide +kernel
theorem dX5_overlaps_2 : decode cX5_overlaps 2 = .ok (.invokevirtual 37, 3) := by decide +kernel
theorem dX5_overlaps_5 : decode cX5_overlaps 5 = .ok (.invokestatic 212, 3) := by decide +kernel
theorem dX5_overlaps_8 : decode cX5_overlaps 8 = .ok (.ireturn, 1) := by decide +kernel
theorem dX5_mirrors_0 : decode cX5_mirrors 0 = .ok (.aload_n 0, 1) := by decide +kernel
theorem dX5_mirrors_1 : decode cX5_mirrors 1 = .ok (.iload_n 1, 1) := by decide +kernel
theorem dX5_mirrors_2 : decode cX5_mirrors 2 = .ok (.invokevirtual 37, 3) := by decide +kernel
theorem dX5_mirrors_5 : decode cX5_mirrors 5 = .ok (.invokestatic 215, 3) := by decide +kernel
theorem dX5_mirrors_8 : decode cX5_mirrors 8 = .ok (.ireturn, 1) := by decide +kernel
theorem dX5_folds_0 : decode cX5_folds 0 = .ok (.aload_n 0, 1) := by decide +kernel
theorem dX5_folds_1 : decode cX5_folds 1 = .ok (.iload_n 1, 1) := by decide +kernel
theorem dX5_folds_2 : decode cX5_folds 2 = .ok (.invokevirtual 37, 3) := by decide +kernel
theorem dX5_folds_5 : decode cX5_folds 5 = .ok (.invokestatic 218, 3) := by decide +kernel
theorem dX5_folds_8 : decode cX5_folds 8 = .ok (.ireturn, 1) := by decide +kernel
theorem dX5_least_0 : decode cX5_least 0 = .ok (.aload_n 0, 1) := by decide +kernel
theorem dX5_least_1 : decode cX5_least 1 = .ok (.iload_n 1, 1) := by decide +kernel
theorem dX5_least_2 : decode cX5_least 2 = .ok (.invokevirtual 37, 3) := by decide +kernel
theorem dX5_least_5 : decode cX5_least 5 = .ok (.invokestatic 221, 3) := by decide +kernel
theorem dX5_least_8 : decode cX5_least 8 = .ok (.ireturn, 1) := by decide +kernel
theorem dX5_size_0 : decode cX5_size 0 = .ok (.aload_n 0, 1) := by decide +kernel
theorem dX5_size_1 : decode cX5_size 1 = .ok (.iload_n 1, 1) := by decide +kernel
theorem dX5_size_2 : decode cX5_size 2 = .ok (.invokevirtual 140, 3) := by decide +kernel
theorem dX5_size_5 : decode cX5_size 5 = .ok (.iload_n 2, 1) := by decide +kernel
theorem dX5_size_6 : decode cX5_size 6 = .ok (.invokevirtual 238, 3) := by decide +kernel
theorem dX5_size_9 : decode cX5_size 9 = .ok (.getfield 50, 3) := by decide +kernel
theorem dX5_size_12 : decode cX5_size 12 = .ok (.ireturn, 1) := by decide +kernel
theorem dX5_ups_0 : decode cX5_ups 0 = .ok (.aload_n 0, 1) := by decide +kernel
theorem dX5_ups_1 : decode cX5_ups 1 = .ok (.iload_n 1, 1) := by decide +kernel
theorem dX5_ups_2 : decode cX5_ups 2 = .ok (.invokevirtual 140, 3) := by decide +kernel
theorem dX5_ups_5 : decode cX5_ups 5 = .ok (.iload_n 2, 1) := by decide +kernel
theorem dX5_ups_6 : decode cX5_ups 6 = .ok (.invokevirtual 238, 3) := by decide +kernel
theorem dX5_ups_9 : decode cX5_ups 9 = .ok (.invokestatic 108, 3) := by decide +kernel
theorem dX5_ups_12 : decode cX5_ups 12 = .ok (.ireturn, 1) := by decide +kernel
theorem dX5_cross_0 : decode cX5_cross 0 = .ok (.aload_n 0, 1) := by decide +kernel
theorem dX5_cross_1 : decode cX5_cross 1 = .ok (.iload_n 1, 1) := by decide +kernel
theorem dX5_cross_2 : decode cX5_cross 2 = .ok (.invokevirtual 140, 3) := by decide +kernel
theorem dX5_cross_5 : decode cX5_cross 5 = .ok (.astore_n 2, 1) := by decide +kernel
theorem dX5_cross_6 : decode cX5_cross 6 = .ok (.aload_n 2, 1) := by decide +kernel
theorem dX5_cross_7 : decode cX5_cross 7 = .ok (.getfield 144, 3) := by decide +kernel
theorem dX5_cross_10 : decode cX5_cross 10 = .ok (.getfield 50, 3) := by decide +kernel
theorem dX5_cross_13 : decode cX5_cross 13 = .ok (.aload_n 2, 1) := by decide +kernel
theorem dX5_cross_14 : decode cX5_cross 14 = .ok (.getfield 242, 3) := by decide +kernel
theorem dX5_cross_17 : decode cX5_cross 17 = .ok (.invokestatic 108, 3) := by decide +kernel
theorem dX5_cross_20 : decode cX5_cross 20 = .ok (.imul, 1) := by decide +kernel
theorem dX5_cross_21 : decode cX5_cross 21 = .ok (.aload_n 2, 1) := by decide +kernel
theorem dX5_cross_22 : decode cX5_cross 22 = .ok (.getfield 242, 3) := by decide +kernel
theorem dX5_cross_25 : decode cX5_cross 25 = .ok (.getfield 50, 3) := by decide +kernel
theorem dX5_cross_28 : decode cX5_cross 28 = .ok (.aload_n 2, 1) := by decide +kernel
theorem dX5_cross_29 : decode cX5_cross 29 = .ok (.getfield 144, 3) := by decide +kernel
theorem dX5_cross_32 : decode cX5_cross 32 = .ok (.invokestatic 108, 3) := by decide +kernel
theorem dX5_cross_35 : decode cX5_cross 35 = .ok (.imul, 1) := by decide +kernel
theorem dX5_cross_36 : decode cX5_cross 36 = .ok (.isub, 1) := by decide +kernel
theorem dX5_cross_37 : decode cX5_cross 37 = .ok (.ireturn, 1) := by decide +kernel
theorem dX5_alike_0 : decode cX5_alike 0 = .ok (.aload_n 0, 1) := by decide +kernel
theorem dX5_alike_1 : decode cX5_alike 1 = .ok (.iload_n 1, 1) := by decide +kernel
theorem dX5_alike_2 : decode cX5_alike 2 = .ok (.invokevirtual 140, 3) := by decide +kernel
theorem dX5_alike_5 : decode cX5_alike 5 = .ok (.astore_n 2, 1) := by decide +kernel
theorem dX5_alike_6 : decode cX5_alike 6 = .ok (.aload_n 2, 1) := by decide +kernel
theorem dX5_alike_7 : decode cX5_alike 7 = .ok (.getfield 144, 3) := by decide +kernel
theorem dX5_alike_10 : decode cX5_alike 10 = .ok (.aload_n 2, 1) := by decide +kernel
theorem dX5_alike_11 : decode cX5_alike 11 = .ok (.getfield 242, 3) := by decide +kernel
theorem dX5_alike_14 : decode cX5_alike 14 = .ok (.invokestatic 245, 3) := by decide +kernel
theorem dX5_alike_17 : decode cX5_alike 17 = .ok (.ireturn, 1) := by decide +kernel
theorem dX5_house_0 : decode cX5_house 0 = .ok (.iload_n 1, 1) := by decide +kernel
theorem dX5_house_1 : decode cX5_house 1 = .ok (.ifCond .lt 12, 3) := by decide +kernel
theorem dX5_house_4 : decode cX5_house 4 = .ok (.iload_n 1, 1) := by decide +kernel
theorem dX5_house_5 : decode cX5_house 5 = .ok (.iconst 3, 1) := by decide +kernel
theorem dX5_house_6 : decode cX5_house 6 = .ok (.if_icmp .gt 7, 3) := by decide +kernel
theorem dX5_house_9 : decode cX5_house 9 = .ok (.iconst 1, 1) := by decide +kernel
theorem dX5_house_10 : decode cX5_house 10 = .ok (.goto 4, 3) := by decide +kernel
theorem dX5_house_13 : decode cX5_house 13 = .ok (.iconst 0, 1) := by decide +kernel
theorem dX5_house_14 : decode cX5_house 14 = .ok (.invokestatic 42, 3) := by decide +kernel
theorem dX5_house_17 : decode cX5_house 17 = .ok (.iload_n 1, 1) := by decide +kernel
theorem dX5_house_18 : decode cX5_house 18 = .ok (.ifCond .ne 8, 3) := by decide +kernel
theorem dX5_house_21 : decode cX5_house 21 = .ok (.aload_n 0, 1) := by decide +kernel
theorem dX5_house_22 : decode cX5_house 22 = .ok (.getfield 248, 3) := by decide +kernel
theorem dX5_house_25 : decode cX5_house 25 = .ok (.ireturn, 1) := by decide +kernel
theorem dX5_house_26 : decode cX5_house 26 = .ok (.iload_n 1, 1) := by decide +kernel
theorem dX5_house_27 : decode cX5_house 27 = .ok (.iconst 1, 1) := by decide +kernel
theorem dX5_house_28 : decode cX5_house 28 = .ok (.if_icmp .ne 8, 3) := by decide +kernel
theorem dX5_house_31 : decode cX5_house 31 = .ok (.aload_n 0, 1) := by decide +kernel
theorem dX5_house_32 : decode cX5_house 32 = .ok (.getfield 251, 3) := by decide +kernel
theorem dX5_house_35 : decode cX5_house 35 = .ok (.ireturn, 1) := by decide +kernel
theorem dX5_house_36 : decode cX5_house 36 = .ok (.iload_n 1, 1) := by decide +kernel
theorem dX5_house_37 : decode cX5_house 37 = .ok (.iconst 2, 1) := by decide +kernel
theorem dX5_house_38 : decode cX5_house 38 = .ok (.if_icmp .ne 10, 3) := by decide +kernel
theorem dX5_house_41 : decode cX5_house 41 = .ok (.aload_n 0, 1) := by decide +kernel
theorem dX5_house_42 : decode cX5_house 42 = .ok (.getfield 254, 3) := by decide +kernel
theorem dX5_house_45 : decode cX5_house 45 = .ok (.goto 7, 3) := by decide +kernel
theorem dX5_house_48 : decode cX5_house 48 = .ok (.aload_n 0, 1) := by decide +kernel
theorem dX5_house_49 : decode cX5_house 49 = .ok (.getfield 257, 3) := by decide +kernel
theorem dX5_house_52 : decode cX5_house 52 = .ok (.ireturn, 1) := by decide +kernel
theorem dX5_isSound_0 : decode cX5_isSound 0 = .ok (.iconst 0, 1) := by decide +kernel
theorem dX5_isSound_1 : decode cX5_isSound 1 = .ok (.istore_n 1, 1) := by decide +kernel
theorem dX5_isSound_2 : decode cX5_isSound 2 = .ok (.iload_n 1, 1) := by decide +kernel
theorem dX5_isSound_3 : decode cX5_isSound 3 = .ok (.iconst 3, 1) := by decide +kernel
theorem dX5_isSound_4 : decode cX5_isSound 4 = .ok (.if_icmp .ge 19, 3) := by decide +kernel
theorem dX5_isSound_7 : decode cX5_isSound 7 = .ok (.aload_n 0, 1) := by decide +kernel
theorem dX5_isSound_8 : decode cX5_isSound 8 = .ok (.iload_n 1, 1) := by decide +kernel
theorem dX5_isSound_9 : decode cX5_isSound 9 = .ok (.invokevirtual 260, 3) := by decide +kernel
theorem dX5_isSound_12 : decode cX5_isSound 12 = .ok (.ifCond .ne 5, 3) := by decide +kernel
theorem dX5_isSound_15 : decode cX5_isSound 15 = .ok (.iconst 0, 1) := by decide +kernel
theorem dX5_isSound_16 : decode cX5_isSound 16 = .ok (.ireturn, 1) := by decide +kernel
theorem dX5_isSound_17 : decode cX5_isSound 17 = .ok (.iinc 1 1, 3) := by decide +kernel
theorem dX5_isSound_20 : decode cX5_isSound 20 = .ok (.goto (-18), 3) := by decide +kernel
theorem dX5_isSound_23 : decode cX5_isSound 23 = .ok (.iconst 0, 1) := by decide +kernel
theorem dX5_isSound_24 : decode cX5_isSound 24 = .ok (.istore_n 1, 1) := by decide +kernel
theorem dX5_isSound_25 : decode cX5_isSound 25 = .ok (.iload_n 1, 1) := by decide +kernel
theorem dX5_isSound_26 : decode cX5_isSound 26 = .ok (.iconst 2, 1) := by decide +kernel
theorem dX5_isSound_27 : decode cX5_isSound 27 = .ok (.if_icmp .ge 19, 3) := by decide +kernel
theorem dX5_isSound_30 : decode cX5_isSound 30 = .ok (.aload_n 0, 1) := by decide +kernel
theorem dX5_isSound_31 : decode cX5_isSound 31 = .ok (.iload_n 1, 1) := by decide +kernel
theorem dX5_isSound_32 : decode cX5_isSound 32 = .ok (.invokevirtual 263, 3) := by decide +kernel
theorem dX5_isSound_35 : decode cX5_isSound 35 = .ok (.ifCond .ne 5, 3) := by decide +kernel
theorem dX5_isSound_38 : decode cX5_isSound 38 = .ok (.iconst 0, 1) := by decide +kernel
theorem dX5_isSound_39 : decode cX5_isSound 39 = .ok (.ireturn, 1) := by decide +kernel
theorem dX5_isSound_40 : decode cX5_isSound 40 = .ok (.iinc 1 1, 3) := by decide +kernel
theorem dX5_isSound_43 : decode cX5_isSound 43 = .ok (.goto (-18), 3) := by decide +kernel
theorem dX5_isSound_46 : decode cX5_isSound 46 = .ok (.iconst 1, 1) := by decide +kernel
theorem dX5_isSound_47 : decode cX5_isSound 47 = .ok (.ireturn, 1) := by decide +kernel
theorem dX5_digest_0 : decode cX5_digest 0 = .ok (.ldc2_w 266, 3) := by decide +kernel
theorem dX5_digest_3 : decode cX5_digest 3 = .ok (.lstore_n 1, 1) := by decide +kernel
theorem dX5_digest_4 : decode cX5_digest 4 = .ok (.iconst 0, 1) := by decide +kernel
theorem dX5_digest_5 : decode cX5_digest 5 = .ok (.istore_n 3, 1) := by decide +kernel
theorem dX5_digest_6 : decode cX5_digest 6 = .ok (.iload_n 3, 1) := by decide +kernel
theorem dX5_digest_7 : decode cX5_digest 7 = .ok (.iconst 3, 1) := by decide +kernel
theorem dX5_digest_8 : decode cX5_digest 8 = .ok (.if_icmp .ge 16, 3) := by decide +kernel
theorem dX5_digest_11 : decode cX5_digest 11 = .ok (.aload_n 0, 1) := by decide +kernel
theorem dX5_digest_12 : decode cX5_digest 12 = .ok (.lload_n 1, 1) := by decide +kernel
theorem dX5_digest_13 : decode cX5_digest 13 = .ok (.iload_n 3, 1) := by decide +kernel
theorem dX5_digest_14 : decode cX5_digest 14 = .ok (.invokevirtual 268, 3) := by decide +kernel
theorem dX5_digest_17 : decode cX5_digest 17 = .ok (.lstore_n 1, 1) := by decide +kernel
theorem dX5_digest_18 : decode cX5_digest 18 = .ok (.iinc 3 1, 3) := by decide +kernel
theorem dX5_digest_21 : decode cX5_digest 21 = .ok (.goto (-15), 3) := by decide +kernel
theorem dX5_digest_24 : decode cX5_digest 24 = .ok (.iconst 0, 1) := by decide +kernel
theorem dX5_digest_25 : decode cX5_digest 25 = .ok (.istore_n 3, 1) := by decide +kernel
theorem dX5_digest_26 : decode cX5_digest 26 = .ok (.iload_n 3, 1) := by decide +kernel
theorem dX5_digest_27 : decode cX5_digest 27 = .ok (.iconst 2, 1) := by decide +kernel
theorem dX5_digest_28 : decode cX5_digest 28 = .ok (.if_icmp .ge 16, 3) := by decide +kernel
theorem dX5_digest_31 : decode cX5_digest 31 = .ok (.aload_n 0, 1) := by decide +kernel
theorem dX5_digest_32 : decode cX5_digest 32 = .ok (.lload_n 1, 1) := by decide +kernel
theorem dX5_digest_33 : decode cX5_digest 33 = .ok (.iload_n 3, 1) := by decide +kernel
theorem dX5_digest_34 : decode cX5_digest 34 = .ok (.invokevirtual 272, 3) := by decide +kernel
theorem dX5_digest_37 : decode cX5_digest 37 = .ok (.lstore_n 1, 1) := by decide +kernel
theorem dX5_digest_38 : decode cX5_digest 38 = .ok (.iinc 3 1, 3) := by decide +kernel
theorem dX5_digest_41 : decode cX5_digest 41 = .ok (.goto (-15), 3) := by decide +kernel
theorem dX5_digest_44 : decode cX5_digest 44 = .ok (.iconst 0, 1) := by decide +kernel
theorem dX5_digest_45 : decode cX5_digest 45 = .ok (.istore_n 3, 1) := by decide +kernel
theorem dX5_digest_46 : decode cX5_digest 46 = .ok (.iload_n 3, 1) := by decide +kernel
theorem dX5_digest_47 : decode cX5_digest 47 = .ok (.iconst 3, 1) := by decide +kernel
theorem dX5_digest_48 : decode cX5_digest 48 = .ok (.if_icmp .gt 20, 3) := by decide +kernel
theorem dX5_digest_51 : decode cX5_digest 51 = .ok (.lload_n 1, 1) := by decide +kernel
theorem dX5_digest_52 : decode cX5_digest 52 = .ok (.aload_n 0, 1) := by decide +kernel
theorem dX5_digest_53 : decode cX5_digest 53 = .ok (.iload_n 3, 1) := by decide +kernel
theorem dX5_digest_54 : decode cX5_digest 54 = .ok (.invokevirtual 275, 3) := by decide +kernel
theorem dX5_digest_57 : decode cX5_digest 57 = .ok (.i2l, 1) := by decide +kernel
theorem dX5_digest_58 : decode cX5_digest 58 = .ok (.invokestatic 278, 3) := by decide +kernel
theorem dX5_digest_61 : decode cX5_digest 61 = .ok (.lstore_n 1, 1) := by decide +kernel
theorem dX5_digest_62 : decode cX5_digest 62 = .ok (.iinc 3 1, 3) := by decide +kernel
theorem dX5_digest_65 : decode cX5_digest 65 = .ok (.goto (-19), 3) := by decide +kernel
theorem dX5_digest_68 : decode cX5_digest 68 = .ok (.lload_n 1, 1) := by decide +kernel
theorem dX5_digest_69 : decode cX5_digest 69 = .ok (.aload_n 0, 1) := by decide +kernel
theorem dX5_digest_70 : decode cX5_digest 70 = .ok (.invokevirtual 282, 3) := by decide +kernel
theorem dX5_digest_73 : decode cX5_digest 73 = .ok (.invokestatic 79, 3) := by decide +kernel
theorem dX5_digest_76 : decode cX5_digest 76 = .ok (.i2l, 1) := by decide +kernel
theorem dX5_digest_77 : decode cX5_digest 77 = .ok (.invokestatic 278, 3) := by decide +kernel
theorem dX5_digest_80 : decode cX5_digest 80 = .ok (.lreturn, 1) := by decide +kernel
theorem dX5_wordOf_0 : decode cX5_wordOf 0 = .ok (.iload_n 1, 1) := by decide +kernel
theorem dX5_wordOf_1 : decode cX5_wordOf 1 = .ok (.ifCond .lt 12, 3) := by decide +kernel
theorem dX5_wordOf_4 : decode cX5_wordOf 4 = .ok (.iload_n 1, 1) := by decide +kernel
theorem dX5_wordOf_5 : decode cX5_wordOf 5 = .ok (.aload_n 0, 1) := by decide +kernel
theorem dX5_wordOf_6 : decode cX5_wordOf 6 = .ok (.getfield 11, 3) := by decide +kernel
theorem dX5_wordOf_9 : decode cX5_wordOf 9 = .ok (.arraylength, 1) := by decide +kernel
theorem dX5_wordOf_10 : decode cX5_wordOf 10 = .ok (.if_icmp .lt 14, 3) := by decide +kernel
theorem dX5_wordOf_13 : decode cX5_wordOf 13 = .ok (.new 285, 3) := by decide +kernel
theorem dX5_wordOf_16 : decode cX5_wordOf 16 = .ok (.dup, 1) := by decide +kernel
theorem dX5_wordOf_17 : decode cX5_wordOf 17 = .ok (.ldc_w 287, 3) := by decide +kernel
theorem dX5_wordOf_20 : decode cX5_wordOf 20 = .ok (.invokespecial 289, 3) := by decide +kernel
theorem dX5_wordOf_23 : decode cX5_wordOf 23 = .ok (.athrow, 1) := by decide +kernel
theorem dX5_wordOf_24 : decode cX5_wordOf 24 = .ok (.aload_n 0, 1) := by decide +kernel
theorem dX5_wordOf_25 : decode cX5_wordOf 25 = .ok (.getfield 11, 3) := by decide +kernel
theorem dX5_wordOf_28 : decode cX5_wordOf 28 = .ok (.iload_n 1, 1) := by decide +kernel
theorem dX5_wordOf_29 : decode cX5_wordOf 29 = .ok (.aaload, 1) := by decide +kernel
theorem dX5_wordOf_30 : decode cX5_wordOf 30 = .ok (.areturn, 1) := by decide +kernel
theorem dX5_growthOf_0 : decode cX5_growthOf 0 = .ok (.iload_n 1, 1) := by decide +kernel
theorem dX5_growthOf_1 : decode cX5_growthOf 1 = .ok (.ifCond .lt 12, 3) := by decide +kernel
theorem dX5_growthOf_4 : decode cX5_growthOf 4 = .ok (.iload_n 1, 1) := by decide +kernel
theorem dX5_growthOf_5 : decode cX5_growthOf 5 = .ok (.aload_n 0, 1) := by decide +kernel
theorem dX5_growthOf_6 : decode cX5_growthOf 6 = .ok (.getfield 17, 3) := by decide +kernel
theorem dX5_growthOf_9 : decode cX5_growthOf 9 = .ok (.arraylength, 1) := by decide +kernel
theorem dX5_growthOf_10 : decode cX5_growthOf 10 = .ok (.if_icmp .lt 14, 3) := by decide +kernel
theorem dX5_growthOf_13 : decode cX5_growthOf 13 = .ok (.new 285, 3) := by decide +kernel
theorem dX5_growthOf_16 : decode cX5_growthOf 16 = .ok (.dup, 1) := by decide +kernel
theorem dX5_growthOf_17 : decode cX5_growthOf 17 = .ok (.ldc_w 292, 3) := by decide +kernel
theorem dX5_growthOf_20 : decode cX5_growthOf 20 = .ok (.invokespecial 289, 3) := by decide +kernel
theorem dX5_growthOf_23 : decode cX5_growthOf 23 = .ok (.athrow, 1) := by decide +kernel
theorem dX5_growthOf_24 : decode cX5_growthOf 24 = .ok (.aload_n 0, 1) := by decide +kernel
theorem dX5_growthOf_25 : decode cX5_growthOf 25 = .ok (.getfield 17, 3) := by decide +kernel
theorem dX5_growthOf_28 : decode cX5_growthOf 28 = .ok (.iload_n 1, 1) := by decide +kernel
theorem dX5_growthOf_29 : decode cX5_growthOf 29 = .ok (.aaload, 1) := by decide +kernel
theorem dX5_growthOf_30 : decode cX5_growthOf 30 = .ok (.areturn, 1) := by decide +kernel
theorem dX5_needIndex_0 : decode cX5_needIndex 0 = .ok (.iload_n 0, 1) := by decide +kernel
theorem dX5_needIndex_1 : decode cX5_needIndex 1 = .ok (.ifCond .ne 14, 3) := by decide +kernel
theorem dX5_needIndex_4 : decode cX5_needIndex 4 = .ok (.new 285, 3) := by decide +kernel
theorem dX5_needIndex_7 : decode cX5_needIndex 7 = .ok (.dup, 1) := by decide +kernel
theorem dX5_needIndex_8 : decode cX5_needIndex 8 = .ok (.ldc_w 294, 3) := by decide +kernel
theorem dX5_needIndex_11 : decode cX5_needIndex 11 = .ok (.invokespecial 289, 3) := by decide +kernel
theorem dX5_needIndex_14 : decode cX5_needIndex 14 = .ok (.athrow, 1) := by decide +kernel
theorem dX5_needIndex_15 : decode cX5_needIndex 15 = .ok (.return_, 1) := by decide +kernel
theorem dX5_needArgument_0 : decode cX5_needArgument 0 = .ok (.iload_n 0, 1) := by decide +kernel
theorem dX5_needArgument_1 : decode cX5_needArgument 1 = .ok (.ifCond .ne 14, 3) := by decide +kernel
theorem dX5_needArgument_4 : decode cX5_needArgument 4 = .ok (.new 296, 3) := by decide +kernel
theorem dX5_needArgument_7 : decode cX5_needArgument 7 = .ok (.dup, 1) := by decide +kernel
theorem dX5_needArgument_8 : decode cX5_needArgument 8 = .ok (.ldc_w 298, 3) := by decide +kernel
theorem dX5_needArgument_11 : decode cX5_needArgument 11 = .ok (.invokespecial 300, 3) := by decide +kernel
theorem dX5_needArgument_14 : decode cX5_needArgument 14 = .ok (.athrow, 1) := by decide +kernel
theorem dX5_needArgument_15 : decode cX5_needArgument 15 = .ok (.return_, 1) := by decide +kernel
theorem dX5_needState_0 : decode cX5_needState 0 = .ok (.iload_n 0, 1) := by decide +kernel
theorem dX5_needState_1 : decode cX5_needState 1 = .ok (.ifCond .ne 14, 3) := by decide +kernel
theorem dX5_needState_4 : decode cX5_needState 4 = .ok (.new 301, 3) := by decide +kernel
theorem dX5_needState_7 : decode cX5_needState 7 = .ok (.dup, 1) := by decide +kernel
theorem dX5_needState_8 : decode cX5_needState 8 = .ok (.ldc_w 303, 3) := by decide +kernel
theorem dX5_needState_11 : decode cX5_needState 11 = .ok (.invokespecial 305, 3) := by decide +kernel
theorem dX5_needState_14 : decode cX5_needState 14 = .ok (.athrow, 1) := by decide +kernel
theorem dX5_needState_15 : decode cX5_needState 15 = .ok (.return_, 1) := by decide +kernel
theorem dX5_oneIf_0 : decode cX5_oneIf 0 = .ok (.iload_n 0, 1) := by decide +kernel
theorem dX5_oneIf_1 : decode cX5_oneIf 1 = .ok (.ifCond .eq 7, 3) := by decide +kernel
theorem dX5_oneIf_4 : decode cX5_oneIf 4 = .ok (.iconst 1, 1) := by decide +kernel
theorem dX5_oneIf_5 : decode cX5_oneIf 5 = .ok (.goto 4, 3) := by decide +kernel
theorem dX5_oneIf_8 : decode cX5_oneIf 8 = .ok (.iconst 0, 1) := by decide +kernel
theorem dX5_oneIf_9 : decode cX5_oneIf 9 = .ok (.ireturn, 1) := by decide +kernel
theorem dX5_sheetActDone_0 : decode cX5_sheetActDone 0 = .ok (.aload_n 0, 1) := by decide +kernel
theorem dX5_sheetActDone_1 : decode cX5_sheetActDone 1 = .ok (.dup, 1) := by decide +kernel
theorem dX5_sheetActDone_2 : decode cX5_sheetActDone 2 = .ok (.getfield 248, 3) := by decide +kernel
theorem dX5_sheetActDone_5 : decode cX5_sheetActDone 5 = .ok (.iconst 1, 1) := by decide +kernel
theorem dX5_sheetActDone_6 : decode cX5_sheetActDone 6 = .ok (.iadd, 1) := by decide +kernel
theorem dX5_sheetActDone_7 : decode cX5_sheetActDone 7 = .ok (.putfield 248, 3) := by decide +kernel
theorem dX5_sheetActDone_10 : decode cX5_sheetActDone 10 = .ok (.iload_n 1, 1) := by decide +kernel
theorem dX5_sheetActDone_11 : decode cX5_sheetActDone 11 = .ok (.ireturn, 1) := by decide +kernel
theorem dX5_growthActDone_0 : decode cX5_growthActDone 0 = .ok (.aload_n 0, 1) := by decide +kernel
theorem dX5_growthActDone_1 : decode cX5_growthActDone 1 = .ok (.dup, 1) := by decide +kernel
theorem dX5_growthActDone_2 : decode cX5_growthActDone 2 = .ok (.getfield 251, 3) := by decide +kernel
theorem dX5_growthActDone_5 : decode cX5_growthActDone 5 = .ok (.iconst 1, 1) := by decide +kernel
theorem dX5_growthActDone_6 : decode cX5_growthActDone 6 = .ok (.iadd, 1) := by decide +kernel
theorem dX5_growthActDone_7 : decode cX5_growthActDone 7 = .ok (.putfield 251, 3) := by decide +kernel
theorem dX5_growthActDone_10 : decode cX5_growthActDone 10 = .ok (.iload_n 1, 1) := by decide +kernel
theorem dX5_growthActDone_11 : decode cX5_growthActDone 11 = .ok (.ireturn, 1) := by decide +kernel
theorem dX5_refuse_0 : decode cX5_refuse 0 = .ok (.aload_n 0, 1) := by decide +kernel
theorem dX5_refuse_1 : decode cX5_refuse 1 = .ok (.dup, 1) := by decide +kernel
theorem dX5_refuse_2 : decode cX5_refuse 2 = .ok (.getfield 254, 3) := by decide +kernel
theorem dX5_refuse_5 : decode cX5_refuse 5 = .ok (.iconst 1, 1) := by decide +kernel
theorem dX5_refuse_6 : decode cX5_refuse 6 = .ok (.iadd, 1) := by decide +kernel
theorem dX5_refuse_7 : decode cX5_refuse 7 = .ok (.putfield 254, 3) := by decide +kernel
theorem dX5_refuse_10 : decode cX5_refuse 10 = .ok (.bipush (-9), 2) := by decide +kernel
theorem dX5_refuse_12 : decode cX5_refuse 12 = .ok (.ireturn, 1) := by decide +kernel
theorem dX5_exchangePart_0 : decode cX5_exchangePart 0 = .ok (.aload_n 1, 1) := by decide +kernel
theorem dX5_exchangePart_1 : decode cX5_exchangePart 1 = .ok (.getfield 50, 3) := by decide +kernel
theorem dX5_exchangePart_4 : decode cX5_exchangePart 4 = .ok (.iload_n 3, 1) := by decide +kernel
theorem dX5_exchangePart_5 : decode cX5_exchangePart 5 = .ok (.iload_n 2, 1) := by decide +kernel
theorem dX5_exchangePart_6 : decode cX5_exchangePart 6 = .ok (.isub, 1) := by decide +kernel
theorem dX5_exchangePart_7 : decode cX5_exchangePart 7 = .ok (.isub, 1) := by decide +kernel
theorem dX5_exchangePart_8 : decode cX5_exchangePart 8 = .ok (.aload 4, 2) := by decide +kernel
theorem dX5_exchangePart_10 : decode cX5_exchangePart 10 = .ok (.getfield 50, 3) := by decide +kernel
theorem dX5_exchangePart_13 : decode cX5_exchangePart 13 = .ok (.iadd, 1) := by decide +kernel
theorem dX5_exchangePart_14 : decode cX5_exchangePart 14 = .ok (.bipush 64, 2) := by decide +kernel
theorem dX5_exchangePart_16 : decode cX5_exchangePart 16 = .ok (.if_icmp .le 8, 3) := by decide +kernel
theorem dX5_exchangePart_19 : decode cX5_exchangePart 19 = .ok (.aload_n 0, 1) := by decide +kernel
theorem dX5_exchangePart_20 : decode cX5_exchangePart 20 = .ok (.invokevirtual 121, 3) := by decide +kernel
theorem dX5_exchangePart_23 : decode cX5_exchangePart 23 = .ok (.ireturn, 1) := by decide +kernel
theorem dX5_exchangePart_24 : decode cX5_exchangePart 24 = .ok (.aload_n 0, 1) := by decide +kernel
theorem dX5_exchangePart_25 : decode cX5_exchangePart 25 = .ok (.getfield 29, 3) := by decide +kernel
theorem dX5_exchangePart_28 : decode cX5_exchangePart 28 = .ok (.invokevirtual 65, 3) := by decide +kernel
theorem dX5_exchangePart_31 : decode cX5_exchangePart 31 = .ok (.aload_n 0, 1) := by decide +kernel
theorem dX5_exchangePart_32 : decode cX5_exchangePart 32 = .ok (.getfield 29, 3) := by decide +kernel
theorem dX5_exchangePart_35 : decode cX5_exchangePart 35 = .ok (.aload_n 1, 1) := by decide +kernel
theorem dX5_exchangePart_36 : decode cX5_exchangePart 36 = .ok (.iconst 0, 1) := by decide +kernel
theorem dX5_exchangePart_37 : decode cX5_exchangePart 37 = .ok (.iload_n 2, 1) := by decide +kernel
theorem dX5_exchangePart_38 : decode cX5_exchangePart 38 = .ok (.invokevirtual 93, 3) := by decide +kernel
theorem dX5_exchangePart_41 : decode cX5_exchangePart 41 = .ok (.aload_n 0, 1) := by decide +kernel
theorem dX5_exchangePart_42 : decode cX5_exchangePart 42 = .ok (.getfield 29, 3) := by decide +kernel
theorem dX5_exchangePart_45 : decode cX5_exchangePart 45 = .ok (.aload 4, 2) := by decide +kernel
theorem dX5_exchangePart_47 : decode cX5_exchangePart 47 = .ok (.iconst 0, 1) := by decide +kernel
theorem dX5_exchangePart_48 : decode cX5_exchangePart 48 = .ok (.aload 4, 2) := by decide +kernel
theorem dX5_exchangePart_50 : decode cX5_exchangePart 50 = .ok (.getfield 50, 3) := by decide +kernel
theorem dX5_exchangePart_53 : decode cX5_exchangePart 53 = .ok (.invokevirtual 93, 3) := by decide +kernel
theorem dX5_exchangePart_56 : decode cX5_exchangePart 56 = .ok (.aload_n 0, 1) := by decide +kernel
theorem dX5_exchangePart_57 : decode cX5_exchangePart 57 = .ok (.getfield 29, 3) := by decide +kernel
theorem dX5_exchangePart_60 : decode cX5_exchangePart 60 = .ok (.aload_n 1, 1) := by decide +kernel
theorem dX5_exchangePart_61 : decode cX5_exchangePart 61 = .ok (.iload_n 3, 1) := by decide +kernel
theorem dX5_exchangePart_62 : decode cX5_exchangePart 62 = .ok (.aload_n 1, 1) := by decide +kernel
theorem dX5_exchangePart_63 : decode cX5_exchangePart 63 = .ok (.getfield 50, 3) := by decide +kernel
theorem dX5_exchangePart_66 : decode cX5_exchangePart 66 = .ok (.invokevirtual 93, 3) := by decide +kernel
theorem dX5_exchangePart_69 : decode cX5_exchangePart 69 = .ok (.aload_n 1, 1) := by decide +kernel
theorem dX5_exchangePart_70 : decode cX5_exchangePart 70 = .ok (.aload_n 0, 1) := by decide +kernel
theorem dX5_exchangePart_71 : decode cX5_exchangePart 71 = .ok (.getfield 29, 3) := by decide +kernel
theorem dX5_exchangePart_74 : decode cX5_exchangePart 74 = .ok (.invokevirtual 97, 3) := by decide +kernel
theorem dX5_exchangePart_77 : decode cX5_exchangePart 77 = .ok (.aload_n 0, 1) := by decide +kernel
theorem dX5_exchangePart_78 : decode cX5_exchangePart 78 = .ok (.aload_n 1, 1) := by decide +kernel
theorem dX5_exchangePart_79 : decode cX5_exchangePart 79 = .ok (.getfield 50, 3) := by decide +kernel
theorem dX5_exchangePart_82 : decode cX5_exchangePart 82 = .ok (.invokevirtual 54, 3) := by decide +kernel
theorem dX5_exchangePart_85 : decode cX5_exchangePart 85 = .ok (.ireturn, 1) := by decide +kernel
theorem dX5_settle_0 : decode cX5_settle 0 = .ok (.aload_n 1, 1) := by decide +kernel
theorem dX5_settle_1 : decode cX5_settle 1 = .ok (.aload_n 2, 1) := by decide +kernel
theorem dX5_settle_2 : decode cX5_settle 2 = .ok (.invokestatic 195, 3) := by decide +kernel
theorem dX5_settle_5 : decode cX5_settle 5 = .ok (.ifCond .ne 7, 3) := by decide +kernel
theorem dX5_settle_8 : decode cX5_settle 8 = .ok (.iconst 1, 1) := by decide +kernel
theorem dX5_settle_9 : decode cX5_settle 9 = .ok (.goto 4, 3) := by decide +kernel
theorem dX5_settle_12 : decode cX5_settle 12 = .ok (.iconst 0, 1) := by decide +kernel
theorem dX5_settle_13 : decode cX5_settle 13 = .ok (.istore_n 3, 1) := by decide +kernel
theorem dX5_settle_14 : decode cX5_settle 14 = .ok (.aload_n 1, 1) := by decide +kernel
theorem dX5_settle_15 : decode cX5_settle 15 = .ok (.aload_n 2, 1) := by decide +kernel
theorem dX5_settle_16 : decode cX5_settle 16 = .ok (.invokevirtual 97, 3) := by decide +kernel
theorem dX5_settle_19 : decode cX5_settle 19 = .ok (.aload_n 0, 1) := by decide +kernel
theorem dX5_settle_20 : decode cX5_settle 20 = .ok (.iload_n 3, 1) := by decide +kernel
theorem dX5_settle_21 : decode cX5_settle 21 = .ok (.ifCond .ne 7, 3) := by decide +kernel
theorem dX5_settle_24 : decode cX5_settle 24 = .ok (.iconst 1, 1) := by decide +kernel
theorem dX5_settle_25 : decode cX5_settle 25 = .ok (.goto 4, 3) := by decide +kernel
theorem dX5_settle_28 : decode cX5_settle 28 = .ok (.iconst 0, 1) := by decide +kernel
theorem dX5_settle_29 : decode cX5_settle 29 = .ok (.invokestatic 79, 3) := by decide +kernel
theorem dX5_settle_32 : decode cX5_settle 32 = .ok (.invokevirtual 54, 3) := by decide +kernel
theorem dX5_settle_35 : decode cX5_settle 35 = .ok (.ireturn, 1) := by decide +kernel
theorem dX5_takeRule_0 : decode cX5_takeRule 0 = .ok (.iload_n 1, 1) := by decide +kernel
theorem dX5_takeRule_1 : decode cX5_takeRule 1 = .ok (.iconst 2, 1) := by decide +kernel
theorem dX5_takeRule_2 : decode cX5_takeRule 2 = .ok (.if_icmp .lt 13, 3) := by decide +kernel
theorem dX5_takeRule_5 : decode cX5_takeRule 5 = .ok (.iload_n 1, 1) := by decide +kernel
theorem dX5_takeRule_6 : decode cX5_takeRule 6 = .ok (.bipush 31, 2) := by decide +kernel
theorem dX5_takeRule_8 : decode cX5_takeRule 8 = .ok (.if_icmp .gt 7, 3) := by decide +kernel
theorem dX5_takeRule_11 : decode cX5_takeRule 11 = .ok (.iconst 1, 1) := by decide +kernel
theorem dX5_takeRule_12 : decode cX5_takeRule 12 = .ok (.goto 4, 3) := by decide +kernel
theorem dX5_takeRule_15 : decode cX5_takeRule 15 = .ok (.iconst 0, 1) := by decide +kernel
theorem dX5_takeRule_16 : decode cX5_takeRule 16 = .ok (.invokestatic 42, 3) := by decide +kernel
theorem dX5_takeRule_19 : decode cX5_takeRule 19 = .ok (.iload_n 2, 1) := by decide +kernel
theorem dX5_takeRule_20 : decode cX5_takeRule 20 = .ok (.iconst 2, 1) := by decide +kernel
theorem dX5_takeRule_21 : decode cX5_takeRule 21 = .ok (.if_icmp .lt 13, 3) := by decide +kernel
theorem dX5_takeRule_24 : decode cX5_takeRule 24 = .ok (.iload_n 2, 1) := by decide +kernel
theorem dX5_takeRule_25 : decode cX5_takeRule 25 = .ok (.bipush 31, 2) := by decide +kernel
theorem dX5_takeRule_27 : decode cX5_takeRule 27 = .ok (.if_icmp .gt 7, 3) := by decide +kernel
theorem dX5_takeRule_30 : decode cX5_takeRule 30 = .ok (.iconst 1, 1) := by decide +kernel
theorem dX5_takeRule_31 : decode cX5_takeRule 31 = .ok (.goto 4, 3) := by decide +kernel
theorem dX5_takeRule_34 : decode cX5_takeRule 34 = .ok (.iconst 0, 1) := by decide +kernel
theorem dX5_takeRule_35 : decode cX5_takeRule 35 = .ok (.invokestatic 42, 3) := by decide +kernel
theorem dX5_takeRule_38 : decode cX5_takeRule 38 = .ok (.aload_n 0, 1) := by decide +kernel
theorem dX5_takeRule_39 : decode cX5_takeRule 39 = .ok (.getfield 24, 3) := by decide +kernel
theorem dX5_takeRule_42 : decode cX5_takeRule 42 = .ok (.iload_n 1, 1) := by decide +kernel
theorem dX5_takeRule_43 : decode cX5_takeRule 43 = .ok (.iload_n 2, 1) := by decide +kernel
theorem dX5_takeRule_44 : decode cX5_takeRule 44 = .ok (.invokevirtual 309, 3) := by decide +kernel
theorem dX5_takeRule_47 : decode cX5_takeRule 47 = .ok (.return_, 1) := by decide +kernel
theorem dX5_isUpOnLine_0 : decode cX5_isUpOnLine 0 = .ok (.iload_n 0, 1) := by decide +kernel
theorem dX5_isUpOnLine_1 : decode cX5_isUpOnLine 1 = .ok (.ifCond .le 20, 3) := by decide +kernel
theorem dX5_isUpOnLine_4 : decode cX5_isUpOnLine 4 = .ok (.iload_n 3, 1) := by decide +kernel
theorem dX5_isUpOnLine_5 : decode cX5_isUpOnLine 5 = .ok (.iload_n 1, 1) := by decide +kernel
theorem dX5_isUpOnLine_6 : decode cX5_isUpOnLine 6 = .ok (.imul, 1) := by decide +kernel
theorem dX5_isUpOnLine_7 : decode cX5_isUpOnLine 7 = .ok (.iload_n 2, 1) := by decide +kernel
theorem dX5_isUpOnLine_8 : decode cX5_isUpOnLine 8 = .ok (.iadd, 1) := by decide +kernel
theorem dX5_isUpOnLine_9 : decode cX5_isUpOnLine 9 = .ok (.iload_n 0, 1) := by decide +kernel
theorem dX5_isUpOnLine_10 : decode cX5_isUpOnLine 10 = .ok (.irem, 1) := by decide +kernel
theorem dX5_isUpOnLine_11 : decode cX5_isUpOnLine 11 = .ok (.iload_n 1, 1) := by decide +kernel
theorem dX5_isUpOnLine_12 : decode cX5_isUpOnLine 12 = .ok (.iadd, 1) := by decide +kernel
theorem dX5_isUpOnLine_13 : decode cX5_isUpOnLine 13 = .ok (.iload_n 0, 1) := by decide +kernel
theorem dX5_isUpOnLine_14 : decode cX5_isUpOnLine 14 = .ok (.if_icmp .lt 7, 3) := by decide +kernel
theorem dX5_isUpOnLine_17 : decode cX5_isUpOnLine 17 = .ok (.iconst 1, 1) := by decide +kernel
theorem dX5_isUpOnLine_18 : decode cX5_isUpOnLine 18 = .ok (.goto 4, 3) := by decide +kernel
theorem dX5_isUpOnLine_21 : decode cX5_isUpOnLine 21 = .ok (.iconst 0, 1) := by decide +kernel
theorem dX5_isUpOnLine_22 : decode cX5_isUpOnLine 22 = .ok (.ireturn, 1) := by decide +kernel
theorem dX5_isSheetSound_0 : decode cX5_isSheetSound 0 = .ok (.aload_n 0, 1) := by decide +kernel
theorem dX5_isSheetSound_1 : decode cX5_isSheetSound 1 = .ok (.iload_n 1, 1) := by decide +kernel
theorem dX5_isSheetSound_2 : decode cX5_isSheetSound 2 = .ok (.invokevirtual 37, 3) := by decide +kernel
theorem dX5_isSheetSound_5 : decode cX5_isSheetSound 5 = .ok (.astore_n 2, 1) := by decide +kernel
theorem dX5_isSheetSound_6 : decode cX5_isSheetSound 6 = .ok (.aload_n 0, 1) := by decide +kernel
theorem dX5_isSheetSound_7 : decode cX5_isSheetSound 7 = .ok (.getfield 29, 3) := by decide +kernel
theorem dX5_isSheetSound_10 : decode cX5_isSheetSound 10 = .ok (.aload_n 2, 1) := by decide +kernel
theorem dX5_isSheetSound_11 : decode cX5_isSheetSound 11 = .ok (.invokevirtual 101, 3) := by decide +kernel
theorem dX5_isSheetSound_14 : decode cX5_isSheetSound 14 = .ok (.aload_n 0, 1) := by decide +kernel
theorem dX5_isSheetSound_15 : decode cX5_isSheetSound 15 = .ok (.getfield 33, 3) := by decide +kernel
theorem dX5_isSheetSound_18 : decode cX5_isSheetSound 18 = .ok (.aload_n 0, 1) := by decide +kernel
theorem dX5_isSheetSound_19 : decode cX5_isSheetSound 19 = .ok (.getfield 29, 3) := by decide +kernel
theorem dX5_isSheetSound_22 : decode cX5_isSheetSound 22 = .ok (.invokevirtual 101, 3) := by decide +kernel
theorem dX5_isSheetSound_25 : decode cX5_isSheetSound 25 = .ok (.aload_n 2, 1) := by decide +kernel
theorem dX5_isSheetSound_26 : decode cX5_isSheetSound 26 = .ok (.getfield 50, 3) := by decide +kernel
theorem dX5_isSheetSound_29 : decode cX5_isSheetSound 29 = .ok (.bipush 64, 2) := by decide +kernel
theorem dX5_isSheetSound_31 : decode cX5_isSheetSound 31 = .ok (.if_icmp .gt 38, 3) := by decide +kernel
theorem dX5_isSheetSound_34 : decode cX5_isSheetSound 34 = .ok (.aload_n 0, 1) := by decide +kernel
theorem dX5_isSheetSound_35 : decode cX5_isSheetSound 35 = .ok (.iload_n 1, 1) := by decide +kernel
theorem dX5_isSheetSound_36 : decode cX5_isSheetSound 36 = .ok (.iconst 0, 1) := by decide +kernel
theorem dX5_isSheetSound_37 : decode cX5_isSheetSound 37 = .ok (.invokevirtual 311, 3) := by decide +kernel
theorem dX5_isSheetSound_40 : decode cX5_isSheetSound 40 = .ok (.aload_n 0, 1) := by decide +kernel
theorem dX5_isSheetSound_41 : decode cX5_isSheetSound 41 = .ok (.iload_n 1, 1) := by decide +kernel
theorem dX5_isSheetSound_42 : decode cX5_isSheetSound 42 = .ok (.iconst 1, 1) := by decide +kernel
theorem dX5_isSheetSound_43 : decode cX5_isSheetSound 43 = .ok (.invokevirtual 311, 3) := by decide +kernel
theorem dX5_isSheetSound_46 : decode cX5_isSheetSound 46 = .ok (.iadd, 1) := by decide +kernel
theorem dX5_isSheetSound_47 : decode cX5_isSheetSound 47 = .ok (.aload_n 2, 1) := by decide +kernel
theorem dX5_isSheetSound_48 : decode cX5_isSheetSound 48 = .ok (.getfield 50, 3) := by decide +kernel
theorem dX5_isSheetSound_51 : decode cX5_isSheetSound 51 = .ok (.if_icmp .ne 18, 3) := by decide +kernel
theorem dX5_isSheetSound_54 : decode cX5_isSheetSound 54 = .ok (.aload_n 2, 1) := by decide +kernel
theorem dX5_isSheetSound_55 : decode cX5_isSheetSound 55 = .ok (.aload_n 0, 1) := by decide +kernel
theorem dX5_isSheetSound_56 : decode cX5_isSheetSound 56 = .ok (.getfield 33, 3) := by decide +kernel
theorem dX5_isSheetSound_59 : decode cX5_isSheetSound 59 = .ok (.invokestatic 195, 3) := by decide +kernel
theorem dX5_isSheetSound_62 : decode cX5_isSheetSound 62 = .ok (.ifCond .ne 7, 3) := by decide +kernel
theorem dX5_isSheetSound_65 : decode cX5_isSheetSound 65 = .ok (.iconst 1, 1) := by decide +kernel
theorem dX5_isSheetSound_66 : decode cX5_isSheetSound 66 = .ok (.goto 4, 3) := by decide +kernel
theorem dX5_isSheetSound_69 : decode cX5_isSheetSound 69 = .ok (.iconst 0, 1) := by decide +kernel
theorem dX5_isSheetSound_70 : decode cX5_isSheetSound 70 = .ok (.ireturn, 1) := by decide +kernel
theorem dX5_isGrowthSound_0 : decode cX5_isGrowthSound 0 = .ok (.aload_n 0, 1) := by decide +kernel
theorem dX5_isGrowthSound_1 : decode cX5_isGrowthSound 1 = .ok (.iload_n 1, 1) := by decide +kernel
theorem dX5_isGrowthSound_2 : decode cX5_isGrowthSound 2 = .ok (.invokevirtual 140, 3) := by decide +kernel
theorem dX5_isGrowthSound_5 : decode cX5_isGrowthSound 5 = .ok (.astore_n 2, 1) := by decide +kernel
theorem dX5_isGrowthSound_6 : decode cX5_isGrowthSound 6 = .ok (.aload_n 2, 1) := by decide +kernel
theorem dX5_isGrowthSound_7 : decode cX5_isGrowthSound 7 = .ok (.getfield 178, 3) := by decide +kernel
theorem dX5_isGrowthSound_10 : decode cX5_isGrowthSound 10 = .ok (.iconst 2, 1) := by decide +kernel
theorem dX5_isGrowthSound_11 : decode cX5_isGrowthSound 11 = .ok (.irem, 1) := by decide +kernel
theorem dX5_isGrowthSound_12 : decode cX5_isGrowthSound 12 = .ok (.ifCond .ne 7, 3) := by decide +kernel
theorem dX5_isGrowthSound_15 : decode cX5_isGrowthSound 15 = .ok (.iconst 1, 1) := by decide +kernel
theorem dX5_isGrowthSound_16 : decode cX5_isGrowthSound 16 = .ok (.goto 4, 3) := by decide +kernel
theorem dX5_isGrowthSound_19 : decode cX5_isGrowthSound 19 = .ok (.iconst (-1), 1) := by decide +kernel
theorem dX5_isGrowthSound_20 : decode cX5_isGrowthSound 20 = .ok (.istore_n 3, 1) := by decide +kernel
theorem dX5_isGrowthSound_21 : decode cX5_isGrowthSound 21 = .ok (.aload_n 2, 1) := by decide +kernel
theorem dX5_isGrowthSound_22 : decode cX5_isGrowthSound 22 = .ok (.getfield 144, 3) := by decide +kernel
theorem dX5_isGrowthSound_25 : decode cX5_isGrowthSound 25 = .ok (.getfield 50, 3) := by decide +kernel
theorem dX5_isGrowthSound_28 : decode cX5_isGrowthSound 28 = .ok (.aload_n 2, 1) := by decide +kernel
theorem dX5_isGrowthSound_29 : decode cX5_isGrowthSound 29 = .ok (.getfield 242, 3) := by decide +kernel
theorem dX5_isGrowthSound_32 : decode cX5_isGrowthSound 32 = .ok (.getfield 50, 3) := by decide +kernel
theorem dX5_isGrowthSound_35 : decode cX5_isGrowthSound 35 = .ok (.iadd, 1) := by decide +kernel
theorem dX5_isGrowthSound_36 : decode cX5_isGrowthSound 36 = .ok (.iconst 2, 1) := by decide +kernel
theorem dX5_isGrowthSound_37 : decode cX5_isGrowthSound 37 = .ok (.isub, 1) := by decide +kernel
theorem dX5_isGrowthSound_38 : decode cX5_isGrowthSound 38 = .ok (.istore 4, 2) := by decide +kernel
theorem dX5_isGrowthSound_40 : decode cX5_isGrowthSound 40 = .ok (.aload_n 2, 1) := by decide +kernel
theorem dX5_isGrowthSound_41 : decode cX5_isGrowthSound 41 = .ok (.aload_n 0, 1) := by decide +kernel
theorem dX5_isGrowthSound_42 : decode cX5_isGrowthSound 42 = .ok (.getfield 33, 3) := by decide +kernel
theorem dX5_isGrowthSound_45 : decode cX5_isGrowthSound 45 = .ok (.aload_n 0, 1) := by decide +kernel
theorem dX5_isGrowthSound_46 : decode cX5_isGrowthSound 46 = .ok (.getfield 29, 3) := by decide +kernel
theorem dX5_isGrowthSound_49 : decode cX5_isGrowthSound 49 = .ok (.aload_n 0, 1) := by decide +kernel
theorem dX5_isGrowthSound_50 : decode cX5_isGrowthSound 50 = .ok (.getfield 24, 3) := by decide +kernel
theorem dX5_isGrowthSound_53 : decode cX5_isGrowthSound 53 = .ok (.invokevirtual 147, 3) := by decide +kernel
theorem dX5_isGrowthSound_56 : decode cX5_isGrowthSound 56 = .ok (.aload_n 2, 1) := by decide +kernel
theorem dX5_isGrowthSound_57 : decode cX5_isGrowthSound 57 = .ok (.getfield 144, 3) := by decide +kernel
theorem dX5_isGrowthSound_60 : decode cX5_isGrowthSound 60 = .ok (.aload_n 0, 1) := by decide +kernel
theorem dX5_isGrowthSound_61 : decode cX5_isGrowthSound 61 = .ok (.getfield 33, 3) := by decide +kernel
theorem dX5_isGrowthSound_64 : decode cX5_isGrowthSound 64 = .ok (.invokestatic 195, 3) := by decide +kernel
theorem dX5_isGrowthSound_67 : decode cX5_isGrowthSound 67 = .ok (.ifCond .ne 7, 3) := by decide +kernel
theorem dX5_isGrowthSound_70 : decode cX5_isGrowthSound 70 = .ok (.iconst 1, 1) := by decide +kernel
theorem dX5_isGrowthSound_71 : decode cX5_isGrowthSound 71 = .ok (.goto 4, 3) := by decide +kernel
theorem dX5_isGrowthSound_74 : decode cX5_isGrowthSound 74 = .ok (.iconst 0, 1) := by decide +kernel
theorem dX5_isGrowthSound_75 : decode cX5_isGrowthSound 75 = .ok (.istore 5, 2) := by decide +kernel
theorem dX5_isGrowthSound_77 : decode cX5_isGrowthSound 77 = .ok (.aload_n 2, 1) := by decide +kernel
theorem dX5_isGrowthSound_78 : decode cX5_isGrowthSound 78 = .ok (.aload_n 0, 1) := by decide +kernel
theorem dX5_isGrowthSound_79 : decode cX5_isGrowthSound 79 = .ok (.getfield 33, 3) := by decide +kernel
theorem dX5_isGrowthSound_82 : decode cX5_isGrowthSound 82 = .ok (.invokevirtual 151, 3) := by decide +kernel
theorem dX5_isGrowthSound_85 : decode cX5_isGrowthSound 85 = .ok (.aload_n 2, 1) := by decide +kernel
theorem dX5_isGrowthSound_86 : decode cX5_isGrowthSound 86 = .ok (.getfield 144, 3) := by decide +kernel
theorem dX5_isGrowthSound_89 : decode cX5_isGrowthSound 89 = .ok (.aload_n 0, 1) := by decide +kernel
theorem dX5_isGrowthSound_90 : decode cX5_isGrowthSound 90 = .ok (.getfield 33, 3) := by decide +kernel
theorem dX5_isGrowthSound_93 : decode cX5_isGrowthSound 93 = .ok (.invokestatic 195, 3) := by decide +kernel
theorem dX5_isGrowthSound_96 : decode cX5_isGrowthSound 96 = .ok (.ifCond .ne 7, 3) := by decide +kernel
theorem dX5_isGrowthSound_99 : decode cX5_isGrowthSound 99 = .ok (.iconst 1, 1) := by decide +kernel
theorem dX5_isGrowthSound_100 : decode cX5_isGrowthSound 100 = .ok (.goto 4, 3) := by decide +kernel
theorem dX5_isGrowthSound_103 : decode cX5_isGrowthSound 103 = .ok (.iconst 0, 1) := by decide +kernel
theorem dX5_isGrowthSound_104 : decode cX5_isGrowthSound 104 = .ok (.istore 6, 2) := by decide +kernel
theorem dX5_isGrowthSound_106 : decode cX5_isGrowthSound 106 = .ok (.iload 5, 2) := by decide +kernel
theorem dX5_isGrowthSound_108 : decode cX5_isGrowthSound 108 = .ok (.ifCond .eq 31, 3) := by decide +kernel
theorem dX5_isGrowthSound_111 : decode cX5_isGrowthSound 111 = .ok (.iload 6, 2) := by decide +kernel
theorem dX5_isGrowthSound_113 : decode cX5_isGrowthSound 113 = .ok (.ifCond .eq 26, 3) := by decide +kernel
theorem dX5_isGrowthSound_116 : decode cX5_isGrowthSound 116 = .ok (.aload_n 0, 1) := by decide +kernel
theorem dX5_isGrowthSound_117 : decode cX5_isGrowthSound 117 = .ok (.iload_n 1, 1) := by decide +kernel
theorem dX5_isGrowthSound_118 : decode cX5_isGrowthSound 118 = .ok (.invokevirtual 315, 3) := by decide +kernel
theorem dX5_isGrowthSound_121 : decode cX5_isGrowthSound 121 = .ok (.iload_n 3, 1) := by decide +kernel
theorem dX5_isGrowthSound_122 : decode cX5_isGrowthSound 122 = .ok (.if_icmp .ne 17, 3) := by decide +kernel
theorem dX5_isGrowthSound_125 : decode cX5_isGrowthSound 125 = .ok (.aload_n 0, 1) := by decide +kernel
theorem dX5_isGrowthSound_126 : decode cX5_isGrowthSound 126 = .ok (.iload_n 1, 1) := by decide +kernel
theorem dX5_isGrowthSound_127 : decode cX5_isGrowthSound 127 = .ok (.invokevirtual 318, 3) := by decide +kernel
theorem dX5_isGrowthSound_130 : decode cX5_isGrowthSound 130 = .ok (.iload 4, 2) := by decide +kernel
theorem dX5_isGrowthSound_132 : decode cX5_isGrowthSound 132 = .ok (.if_icmp .ne 7, 3) := by decide +kernel
theorem dX5_isGrowthSound_135 : decode cX5_isGrowthSound 135 = .ok (.iconst 1, 1) := by decide +kernel
theorem dX5_isGrowthSound_136 : decode cX5_isGrowthSound 136 = .ok (.goto 4, 3) := by decide +kernel
theorem dX5_isGrowthSound_139 : decode cX5_isGrowthSound 139 = .ok (.iconst 0, 1) := by decide +kernel
theorem dX5_isGrowthSound_140 : decode cX5_isGrowthSound 140 = .ok (.ireturn, 1) := by decide +kernel
theorem dX5_digestWith_0 : decode cX5_digestWith 0 = .ok (.lload_n 0, 1) := by decide +kernel
theorem dX5_digestWith_1 : decode cX5_digestWith 1 = .ok (.ldc2_w 321, 3) := by decide +kernel
theorem dX5_digestWith_4 : decode cX5_digestWith 4 = .ok (.lmul, 1) := by decide +kernel
theorem dX5_digestWith_5 : decode cX5_digestWith 5 = .ok (.lload_n 2, 1) := by decide +kernel
theorem dX5_digestWith_6 : decode cX5_digestWith 6 = .ok (.ladd, 1) := by decide +kernel
theorem dX5_digestWith_7 : decode cX5_digestWith 7 = .ok (.lreturn, 1) := by decide +kernel
theorem dX5_digestSheet_0 : decode cX5_digestSheet 0 = .ok (.aload_n 0, 1) := by decide +kernel
theorem dX5_digestSheet_1 : decode cX5_digestSheet 1 = .ok (.iload_n 3, 1) := by decide +kernel
theorem dX5_digestSheet_2 : decode cX5_digestSheet 2 = .ok (.invokevirtual 37, 3) := by decide +kernel
theorem dX5_digestSheet_5 : decode cX5_digestSheet 5 = .ok (.astore 4, 2) := by decide +kernel
theorem dX5_digestSheet_7 : decode cX5_digestSheet 7 = .ok (.lload_n 1, 1) := by decide +kernel
theorem dX5_digestSheet_8 : decode cX5_digestSheet 8 = .ok (.aload 4, 2) := by decide +kernel
theorem dX5_digestSheet_10 : decode cX5_digestSheet 10 = .ok (.getfield 50, 3) := by decide +kernel
theorem dX5_digestSheet_13 : decode cX5_digestSheet 13 = .ok (.i2l, 1) := by decide +kernel
theorem dX5_digestSheet_14 : decode cX5_digestSheet 14 = .ok (.invokestatic 278, 3) := by decide +kernel
theorem dX5_digestSheet_17 : decode cX5_digestSheet 17 = .ok (.lstore 5, 2) := by decide +kernel
theorem dX5_digestSheet_19 : decode cX5_digestSheet 19 = .ok (.iconst 0, 1) := by decide +kernel
theorem dX5_digestSheet_20 : decode cX5_digestSheet 20 = .ok (.istore 7, 2) := by decide +kernel
theorem dX5_digestSheet_22 : decode cX5_digestSheet 22 = .ok (.iload 7, 2) := by decide +kernel
theorem dX5_digestSheet_24 : decode cX5_digestSheet 24 = .ok (.aload 4, 2) := by decide +kernel
theorem dX5_digestSheet_26 : decode cX5_digestSheet 26 = .ok (.getfield 50, 3) := by decide +kernel
theorem dX5_digestSheet_29 : decode cX5_digestSheet 29 = .ok (.if_icmp .ge 33, 3) := by decide +kernel
theorem dX5_digestSheet_32 : decode cX5_digestSheet 32 = .ok (.lload 5, 2) := by decide +kernel
theorem dX5_digestSheet_34 : decode cX5_digestSheet 34 = .ok (.aload 4, 2) := by decide +kernel
theorem dX5_digestSheet_36 : decode cX5_digestSheet 36 = .ok (.iload 7, 2) := by decide +kernel
theorem dX5_digestSheet_38 : decode cX5_digestSheet 38 = .ok (.invokevirtual 71, 3) := by decide +kernel
theorem dX5_digestSheet_41 : decode cX5_digestSheet 41 = .ok (.ifCond .eq 9, 3) := by decide +kernel
theorem dX5_digestSheet_44 : decode cX5_digestSheet 44 = .ok (.ldc2_w 323, 3) := by decide +kernel
theorem dX5_digestSheet_47 : decode cX5_digestSheet 47 = .ok (.goto 4, 3) := by decide +kernel
theorem dX5_digestSheet_50 : decode cX5_digestSheet 50 = .ok (.lconst 1, 1) := by decide +kernel
theorem dX5_digestSheet_51 : decode cX5_digestSheet 51 = .ok (.invokestatic 278, 3) := by decide +kernel
theorem dX5_digestSheet_54 : decode cX5_digestSheet 54 = .ok (.lstore 5, 2) := by decide +kernel
theorem dX5_digestSheet_56 : decode cX5_digestSheet 56 = .ok (.iinc 7 1, 3) := by decide +kernel
theorem dX5_digestSheet_59 : decode cX5_digestSheet 59 = .ok (.goto (-37), 3) := by decide +kernel
theorem dX5_digestSheet_62 : decode cX5_digestSheet 62 = .ok (.lload 5, 2) := by decide +kernel
theorem dX5_digestSheet_64 : decode cX5_digestSheet 64 = .ok (.aload_n 0, 1) := by decide +kernel
theorem dX5_digestSheet_65 : decode cX5_digestSheet 65 = .ok (.iload_n 3, 1) := by decide +kernel
theorem dX5_digestSheet_66 : decode cX5_digestSheet 66 = .ok (.iconst 1, 1) := by decide +kernel
theorem dX5_digestSheet_67 : decode cX5_digestSheet 67 = .ok (.invokevirtual 311, 3) := by decide +kernel
theorem dX5_digestSheet_70 : decode cX5_digestSheet 70 = .ok (.i2l, 1) := by decide +kernel
theorem dX5_digestSheet_71 : decode cX5_digestSheet 71 = .ok (.invokestatic 278, 3) := by decide +kernel
theorem dX5_digestSheet_74 : decode cX5_digestSheet 74 = .ok (.lstore 5, 2) := by decide +kernel
theorem dX5_digestSheet_76 : decode cX5_digestSheet 76 = .ok (.lload 5, 2) := by decide +kernel
theorem dX5_digestSheet_78 : decode cX5_digestSheet 78 = .ok (.aload_n 0, 1) := by decide +kernel
theorem dX5_digestSheet_79 : decode cX5_digestSheet 79 = .ok (.iload_n 3, 1) := by decide +kernel
theorem dX5_digestSheet_80 : decode cX5_digestSheet 80 = .ok (.invokevirtual 325, 3) := by decide +kernel
theorem dX5_digestSheet_83 : decode cX5_digestSheet 83 = .ok (.invokestatic 79, 3) := by decide +kernel
theorem dX5_digestSheet_86 : decode cX5_digestSheet 86 = .ok (.i2l, 1) := by decide +kernel
theorem dX5_digestSheet_87 : decode cX5_digestSheet 87 = .ok (.invokestatic 278, 3) := by decide +kernel
theorem dX5_digestSheet_90 : decode cX5_digestSheet 90 = .ok (.lstore 5, 2) := by decide +kernel
theorem dX5_digestSheet_92 : decode cX5_digestSheet 92 = .ok (.lload 5, 2) := by decide +kernel
theorem dX5_digestSheet_94 : decode cX5_digestSheet 94 = .ok (.aload_n 0, 1) := by decide +kernel
theorem dX5_digestSheet_95 : decode cX5_digestSheet 95 = .ok (.iload_n 3, 1) := by decide +kernel
theorem dX5_digestSheet_96 : decode cX5_digestSheet 96 = .ok (.invokevirtual 328, 3) := by decide +kernel
theorem dX5_digestSheet_99 : decode cX5_digestSheet 99 = .ok (.i2l, 1) := by decide +kernel
theorem dX5_digestSheet_100 : decode cX5_digestSheet 100 = .ok (.invokestatic 278, 3) := by decide +kernel
theorem dX5_digestSheet_103 : decode cX5_digestSheet 103 = .ok (.lstore 5, 2) := by decide +kernel
theorem dX5_digestSheet_105 : decode cX5_digestSheet 105 = .ok (.lload 5, 2) := by decide +kernel
theorem dX5_digestSheet_107 : decode cX5_digestSheet 107 = .ok (.aload_n 0, 1) := by decide +kernel
theorem dX5_digestSheet_108 : decode cX5_digestSheet 108 = .ok (.iload_n 3, 1) := by decide +kernel
theorem dX5_digestSheet_109 : decode cX5_digestSheet 109 = .ok (.invokevirtual 331, 3) := by decide +kernel
theorem dX5_digestSheet_112 : decode cX5_digestSheet 112 = .ok (.i2l, 1) := by decide +kernel
theorem dX5_digestSheet_113 : decode cX5_digestSheet 113 = .ok (.invokestatic 278, 3) := by decide +kernel
theorem dX5_digestSheet_116 : decode cX5_digestSheet 116 = .ok (.lstore 5, 2) := by decide +kernel
theorem dX5_digestSheet_118 : decode cX5_digestSheet 118 = .ok (.lload 5, 2) := by decide +kernel
theorem dX5_digestSheet_120 : decode cX5_digestSheet 120 = .ok (.aload_n 0, 1) := by decide +kernel
theorem dX5_digestSheet_121 : decode cX5_digestSheet 121 = .ok (.iload_n 3, 1) := by decide +kernel
theorem dX5_digestSheet_122 : decode cX5_digestSheet 122 = .ok (.invokevirtual 334, 3) := by decide +kernel
theorem dX5_digestSheet_125 : decode cX5_digestSheet 125 = .ok (.i2l, 1) := by decide +kernel
theorem dX5_digestSheet_126 : decode cX5_digestSheet 126 = .ok (.invokestatic 278, 3) := by decide +kernel
theorem dX5_digestSheet_129 : decode cX5_digestSheet 129 = .ok (.lstore 5, 2) := by decide +kernel
theorem dX5_digestSheet_131 : decode cX5_digestSheet 131 = .ok (.lload 5, 2) := by decide +kernel
theorem dX5_digestSheet_133 : decode cX5_digestSheet 133 = .ok (.aload_n 0, 1) := by decide +kernel
theorem dX5_digestSheet_134 : decode cX5_digestSheet 134 = .ok (.iload_n 3, 1) := by decide +kernel
theorem dX5_digestSheet_135 : decode cX5_digestSheet 135 = .ok (.invokevirtual 337, 3) := by decide +kernel
theorem dX5_digestSheet_138 : decode cX5_digestSheet 138 = .ok (.i2l, 1) := by decide +kernel
theorem dX5_digestSheet_139 : decode cX5_digestSheet 139 = .ok (.invokestatic 278, 3) := by decide +kernel
theorem dX5_digestSheet_142 : decode cX5_digestSheet 142 = .ok (.lreturn, 1) := by decide +kernel
theorem dX5_digestGrowth_0 : decode cX5_digestGrowth 0 = .ok (.aload_n 0, 1) := by decide +kernel
theorem dX5_digestGrowth_1 : decode cX5_digestGrowth 1 = .ok (.iload_n 3, 1) := by decide +kernel
theorem dX5_digestGrowth_2 : decode cX5_digestGrowth 2 = .ok (.invokevirtual 140, 3) := by decide +kernel
theorem dX5_digestGrowth_5 : decode cX5_digestGrowth 5 = .ok (.astore 4, 2) := by decide +kernel
theorem dX5_digestGrowth_7 : decode cX5_digestGrowth 7 = .ok (.lload_n 1, 1) := by decide +kernel
theorem dX5_digestGrowth_8 : decode cX5_digestGrowth 8 = .ok (.aload 4, 2) := by decide +kernel
theorem dX5_digestGrowth_10 : decode cX5_digestGrowth 10 = .ok (.getfield 178, 3) := by decide +kernel
theorem dX5_digestGrowth_13 : decode cX5_digestGrowth 13 = .ok (.i2l, 1) := by decide +kernel
theorem dX5_digestGrowth_14 : decode cX5_digestGrowth 14 = .ok (.invokestatic 278, 3) := by decide +kernel
theorem dX5_digestGrowth_17 : decode cX5_digestGrowth 17 = .ok (.lstore 5, 2) := by decide +kernel
theorem dX5_digestGrowth_19 : decode cX5_digestGrowth 19 = .ok (.iconst 0, 1) := by decide +kernel
theorem dX5_digestGrowth_20 : decode cX5_digestGrowth 20 = .ok (.istore 7, 2) := by decide +kernel
theorem dX5_digestGrowth_22 : decode cX5_digestGrowth 22 = .ok (.iload 7, 2) := by decide +kernel
theorem dX5_digestGrowth_24 : decode cX5_digestGrowth 24 = .ok (.aload 4, 2) := by decide +kernel
theorem dX5_digestGrowth_26 : decode cX5_digestGrowth 26 = .ok (.getfield 178, 3) := by decide +kernel
theorem dX5_digestGrowth_29 : decode cX5_digestGrowth 29 = .ok (.if_icmp .ge 24, 3) := by decide +kernel
theorem dX5_digestGrowth_32 : decode cX5_digestGrowth 32 = .ok (.lload 5, 2) := by decide +kernel
theorem dX5_digestGrowth_34 : decode cX5_digestGrowth 34 = .ok (.aload 4, 2) := by decide +kernel
theorem dX5_digestGrowth_36 : decode cX5_digestGrowth 36 = .ok (.iload 7, 2) := by decide +kernel
theorem dX5_digestGrowth_38 : decode cX5_digestGrowth 38 = .ok (.invokevirtual 227, 3) := by decide +kernel
theorem dX5_digestGrowth_41 : decode cX5_digestGrowth 41 = .ok (.i2l, 1) := by decide +kernel
theorem dX5_digestGrowth_42 : decode cX5_digestGrowth 42 = .ok (.invokestatic 278, 3) := by decide +kernel
theorem dX5_digestGrowth_45 : decode cX5_digestGrowth 45 = .ok (.lstore 5, 2) := by decide +kernel
theorem dX5_digestGrowth_47 : decode cX5_digestGrowth 47 = .ok (.iinc 7 1, 3) := by decide +kernel
theorem dX5_digestGrowth_50 : decode cX5_digestGrowth 50 = .ok (.goto (-28), 3) := by decide +kernel
theorem dX5_digestGrowth_53 : decode cX5_digestGrowth 53 = .ok (.lload 5, 2) := by decide +kernel
theorem dX5_digestGrowth_55 : decode cX5_digestGrowth 55 = .ok (.aload_n 0, 1) := by decide +kernel
theorem dX5_digestGrowth_56 : decode cX5_digestGrowth 56 = .ok (.iload_n 3, 1) := by decide +kernel
theorem dX5_digestGrowth_57 : decode cX5_digestGrowth 57 = .ok (.iconst 0, 1) := by decide +kernel
theorem dX5_digestGrowth_58 : decode cX5_digestGrowth 58 = .ok (.invokevirtual 340, 3) := by decide +kernel
theorem dX5_digestGrowth_61 : decode cX5_digestGrowth 61 = .ok (.i2l, 1) := by decide +kernel
theorem dX5_digestGrowth_62 : decode cX5_digestGrowth 62 = .ok (.invokestatic 278, 3) := by decide +kernel
theorem dX5_digestGrowth_65 : decode cX5_digestGrowth 65 = .ok (.lstore 5, 2) := by decide +kernel
theorem dX5_digestGrowth_67 : decode cX5_digestGrowth 67 = .ok (.lload 5, 2) := by decide +kernel
theorem dX5_digestGrowth_69 : decode cX5_digestGrowth 69 = .ok (.aload_n 0, 1) := by decide +kernel
theorem dX5_digestGrowth_70 : decode cX5_digestGrowth 70 = .ok (.iload_n 3, 1) := by decide +kernel
theorem dX5_digestGrowth_71 : decode cX5_digestGrowth 71 = .ok (.iconst 1, 1) := by decide +kernel
theorem dX5_digestGrowth_72 : decode cX5_digestGrowth 72 = .ok (.invokevirtual 340, 3) := by decide +kernel
theorem dX5_digestGrowth_75 : decode cX5_digestGrowth 75 = .ok (.i2l, 1) := by decide +kernel
theorem dX5_digestGrowth_76 : decode cX5_digestGrowth 76 = .ok (.invokestatic 278, 3) := by decide +kernel
theorem dX5_digestGrowth_79 : decode cX5_digestGrowth 79 = .ok (.lstore 5, 2) := by decide +kernel
theorem dX5_digestGrowth_81 : decode cX5_digestGrowth 81 = .ok (.lload 5, 2) := by decide +kernel
theorem dX5_digestGrowth_83 : decode cX5_digestGrowth 83 = .ok (.aload_n 0, 1) := by decide +kernel
theorem dX5_digestGrowth_84 : decode cX5_digestGrowth 84 = .ok (.iload_n 3, 1) := by decide +kernel
theorem dX5_digestGrowth_85 : decode cX5_digestGrowth 85 = .ok (.iconst 0, 1) := by decide +kernel
theorem dX5_digestGrowth_86 : decode cX5_digestGrowth 86 = .ok (.invokevirtual 343, 3) := by decide +kernel
theorem dX5_digestGrowth_89 : decode cX5_digestGrowth 89 = .ok (.i2l, 1) := by decide +kernel
theorem dX5_digestGrowth_90 : decode cX5_digestGrowth 90 = .ok (.invokestatic 278, 3) := by decide +kernel
theorem dX5_digestGrowth_93 : decode cX5_digestGrowth 93 = .ok (.lstore 5, 2) := by decide +kernel
theorem dX5_digestGrowth_95 : decode cX5_digestGrowth 95 = .ok (.lload 5, 2) := by decide +kernel
theorem dX5_digestGrowth_97 : decode cX5_digestGrowth 97 = .ok (.aload_n 0, 1) := by decide +kernel
theorem dX5_digestGrowth_98 : decode cX5_digestGrowth 98 = .ok (.iload_n 3, 1) := by decide +kernel
theorem dX5_digestGrowth_99 : decode cX5_digestGrowth 99 = .ok (.iconst 1, 1) := by decide +kernel
theorem dX5_digestGrowth_100 : decode cX5_digestGrowth 100 = .ok (.invokevirtual 343, 3) := by decide +kernel
theorem dX5_digestGrowth_103 : decode cX5_digestGrowth 103 = .ok (.i2l, 1) := by decide +kernel
theorem dX5_digestGrowth_104 : decode cX5_digestGrowth 104 = .ok (.invokestatic 278, 3) := by decide +kernel
theorem dX5_digestGrowth_107 : decode cX5_digestGrowth 107 = .ok (.lstore 5, 2) := by decide +kernel
theorem dX5_digestGrowth_109 : decode cX5_digestGrowth 109 = .ok (.lload 5, 2) := by decide +kernel
theorem dX5_digestGrowth_111 : decode cX5_digestGrowth 111 = .ok (.aload_n 0, 1) := by decide +kernel
theorem dX5_digestGrowth_112 : decode cX5_digestGrowth 112 = .ok (.iload_n 3, 1) := by decide +kernel
theorem dX5_digestGrowth_113 : decode cX5_digestGrowth 113 = .ok (.invokevirtual 315, 3) := by decide +kernel
theorem dX5_digestGrowth_116 : decode cX5_digestGrowth 116 = .ok (.i2l, 1) := by decide +kernel
theorem dX5_digestGrowth_117 : decode cX5_digestGrowth 117 = .ok (.invokestatic 278, 3) := by decide +kernel
theorem dX5_digestGrowth_120 : decode cX5_digestGrowth 120 = .ok (.lstore 5, 2) := by decide +kernel
theorem dX5_digestGrowth_122 : decode cX5_digestGrowth 122 = .ok (.lload 5, 2) := by decide +kernel
theorem dX5_digestGrowth_124 : decode cX5_digestGrowth 124 = .ok (.aload_n 0, 1) := by decide +kernel
theorem dX5_digestGrowth_125 : decode cX5_digestGrowth 125 = .ok (.iload_n 3, 1) := by decide +kernel
theorem dX5_digestGrowth_126 : decode cX5_digestGrowth 126 = .ok (.invokevirtual 318, 3) := by decide +kernel
theorem dX5_digestGrowth_129 : decode cX5_digestGrowth 129 = .ok (.i2l, 1) := by decide +kernel
theorem dX5_digestGrowth_130 : decode cX5_digestGrowth 130 = .ok (.invokestatic 278, 3) := by decide +kernel
theorem dX5_digestGrowth_133 : decode cX5_digestGrowth 133 = .ok (.lreturn, 1) := by decide +kernel
