theorem dX2_init_20 : decode cX2_init 20 = .ok (.invokespecial 11, 3) := by decide +kernel
theorem dX2_init_23 : decode cX2_init 23 = .ok (.putfield 18, 3) := by decide +kernel
theorem dX2_init_26 : decode cX2_init 26 = .ok (.aload_n 0, 1) := by decide +kernel
theorem dX2_init_27 : decode cX2_init 27 = .ok (.bipush 65, 2) := by decide +kernel
theorem dX2_init_29 : decode cX2_init 29 = .ok (.newarray .boolean, 2) := by decide +kernel
theorem dX2_init_31 : decode cX2_init 31 = .ok (.putfield 21, 3) := by decide +kernel
theorem dX2_init_34 : decode cX2_init 34 = .ok (.return_, 1) := by decide +kernel
theorem dX2_take_0 : decode cX2_take 0 = .ok (.aload_n 0, 1) := by decide +kernel
theorem dX2_take_1 : decode cX2_take 1 = .ok (.getfield 12, 3) := by decide +kernel
theorem dX2_take_4 : decode cX2_take 4 = .ok (.iload_n 1, 1) := by decide +kernel
theorem dX2_take_5 : decode cX2_take 5 = .ok (.invokevirtual 25, 3) := by decide +kernel
theorem dX2_take_8 : decode cX2_take 8 = .ok (.aload_n 0, 1) := by decide +kernel
theorem dX2_take_9 : decode cX2_take 9 = .ok (.getfield 18, 3) := by decide +kernel
theorem dX2_take_12 : decode cX2_take 12 = .ok (.iload_n 2, 1) := by decide +kernel
theorem dX2_take_13 : decode cX2_take 13 = .ok (.invokevirtual 25, 3) := by decide +kernel
theorem dX2_take_16 : decode cX2_take 16 = .ok (.return_, 1) := by decide +kernel
theorem dX2_keepsApart_0 : decode cX2_keepsApart 0 = .ok (.aload_n 0, 1) := by decide +kernel
theorem dX2_keepsApart_1 : decode cX2_keepsApart 1 = .ok (.getfield 12, 3) := by decide +kernel
theorem dX2_keepsApart_4 : decode cX2_keepsApart 4 = .ok (.aload_n 0, 1) := by decide +kernel
theorem dX2_keepsApart_5 : decode cX2_keepsApart 5 = .ok (.getfield 18, 3) := by decide +kernel
theorem dX2_keepsApart_8 : decode cX2_keepsApart 8 = .ok (.invokestatic 29, 3) := by decide +kernel
theorem dX2_keepsApart_11 : decode cX2_keepsApart 11 = .ok (.iconst (-1), 1) := by decide +kernel
theorem dX2_keepsApart_12 : decode cX2_keepsApart 12 = .ok (.if_icmp .eq 7, 3) := by decide +kernel
theorem dX2_keepsApart_15 : decode cX2_keepsApart 15 = .ok (.iconst 1, 1) := by decide +kernel
theorem dX2_keepsApart_16 : decode cX2_keepsApart 16 = .ok (.goto 4, 3) := by decide +kernel
theorem dX2_keepsApart_19 : decode cX2_keepsApart 19 = .ok (.iconst 0, 1) := by decide +kernel
theorem dX2_keepsApart_20 : decode cX2_keepsApart 20 = .ok (.ireturn, 1) := by decide +kernel
theorem dX2_imageLength_0 : decode cX2_imageLength 0 = .ok (.aload_n 1, 1) := by decide +kernel
theorem dX2_imageLength_1 : decode cX2_imageLength 1 = .ok (.invokestatic 35, 3) := by decide +kernel
theorem dX2_imageLength_4 : decode cX2_imageLength 4 = .ok (.istore_n 2, 1) := by decide +kernel
theorem dX2_imageLength_5 : decode cX2_imageLength 5 = .ok (.aload_n 1, 1) := by decide +kernel
theorem dX2_imageLength_6 : decode cX2_imageLength 6 = .ok (.getfield 39, 3) := by decide +kernel
theorem dX2_imageLength_9 : decode cX2_imageLength 9 = .ok (.iload_n 2, 1) := by decide +kernel
theorem dX2_imageLength_10 : decode cX2_imageLength 10 = .ok (.isub, 1) := by decide +kernel
theorem dX2_imageLength_11 : decode cX2_imageLength 11 = .ok (.aload_n 0, 1) := by decide +kernel
theorem dX2_imageLength_12 : decode cX2_imageLength 12 = .ok (.getfield 12, 3) := by decide +kernel
theorem dX2_imageLength_15 : decode cX2_imageLength 15 = .ok (.getfield 39, 3) := by decide +kernel
theorem dX2_imageLength_18 : decode cX2_imageLength 18 = .ok (.imul, 1) := by decide +kernel
theorem dX2_imageLength_19 : decode cX2_imageLength 19 = .ok (.iload_n 2, 1) := by decide +kernel
theorem dX2_imageLength_20 : decode cX2_imageLength 20 = .ok (.aload_n 0, 1) := by decide +kernel
theorem dX2_imageLength_21 : decode cX2_imageLength 21 = .ok (.getfield 18, 3) := by decide +kernel
theorem dX2_imageLength_24 : decode cX2_imageLength 24 = .ok (.getfield 39, 3) := by decide +kernel
theorem dX2_imageLength_27 : decode cX2_imageLength 27 = .ok (.imul, 1) := by decide +kernel
theorem dX2_imageLength_28 : decode cX2_imageLength 28 = .ok (.iadd, 1) := by decide +kernel
theorem dX2_imageLength_29 : decode cX2_imageLength 29 = .ok (.ireturn, 1) := by decide +kernel
theorem dX2_layImage_0 : decode cX2_layImage 0 = .ok (.aload_n 2, 1) := by decide +kernel
theorem dX2_layImage_1 : decode cX2_layImage 1 = .ok (.invokevirtual 43, 3) := by decide +kernel
theorem dX2_layImage_4 : decode cX2_layImage 4 = .ok (.iconst 0, 1) := by decide +kernel
theorem dX2_layImage_5 : decode cX2_layImage 5 = .ok (.istore_n 3, 1) := by decide +kernel
theorem dX2_layImage_6 : decode cX2_layImage 6 = .ok (.iload_n 3, 1) := by decide +kernel
theorem dX2_layImage_7 : decode cX2_layImage 7 = .ok (.aload_n 1, 1) := by decide +kernel
theorem dX2_layImage_8 : decode cX2_layImage 8 = .ok (.getfield 39, 3) := by decide +kernel
theorem dX2_layImage_11 : decode cX2_layImage 11 = .ok (.if_icmp .ge 42, 3) := by decide +kernel
theorem dX2_layImage_14 : decode cX2_layImage 14 = .ok (.aload_n 1, 1) := by decide +kernel
theorem dX2_layImage_15 : decode cX2_layImage 15 = .ok (.iload_n 3, 1) := by decide +kernel
theorem dX2_layImage_16 : decode cX2_layImage 16 = .ok (.invokevirtual 46, 3) := by decide +kernel
theorem dX2_layImage_19 : decode cX2_layImage 19 = .ok (.ifCond .eq 10, 3) := by decide +kernel
theorem dX2_layImage_22 : decode cX2_layImage 22 = .ok (.aload_n 0, 1) := by decide +kernel
theorem dX2_layImage_23 : decode cX2_layImage 23 = .ok (.getfield 18, 3) := by decide +kernel
theorem dX2_layImage_26 : decode cX2_layImage 26 = .ok (.goto 7, 3) := by decide +kernel
theorem dX2_layImage_29 : decode cX2_layImage 29 = .ok (.aload_n 0, 1) := by decide +kernel
theorem dX2_layImage_30 : decode cX2_layImage 30 = .ok (.getfield 12, 3) := by decide +kernel
theorem dX2_layImage_33 : decode cX2_layImage 33 = .ok (.astore 4, 2) := by decide +kernel
theorem dX2_layImage_35 : decode cX2_layImage 35 = .ok (.aload_n 2, 1) := by decide +kernel
theorem dX2_layImage_36 : decode cX2_layImage 36 = .ok (.aload 4, 2) := by decide +kernel
theorem dX2_layImage_38 : decode cX2_layImage 38 = .ok (.iconst 0, 1) := by decide +kernel
theorem dX2_layImage_39 : decode cX2_layImage 39 = .ok (.aload 4, 2) := by decide +kernel
theorem dX2_layImage_41 : decode cX2_layImage 41 = .ok (.getfield 39, 3) := by decide +kernel
theorem dX2_layImage_44 : decode cX2_layImage 44 = .ok (.invokevirtual 50, 3) := by decide +kernel
theorem dX2_layImage_47 : decode cX2_layImage 47 = .ok (.iinc 3 1, 3) := by decide +kernel
theorem dX2_layImage_50 : decode cX2_layImage 50 = .ok (.goto (-44), 3) := by decide +kernel
theorem dX2_layImage_53 : decode cX2_layImage 53 = .ok (.return_, 1) := by decide +kernel
theorem dX2_layOrigin_0 : decode cX2_layOrigin 0 = .ok (.aload_n 0, 1) := by decide +kernel
theorem dX2_layOrigin_1 : decode cX2_layOrigin 1 = .ok (.aload_n 1, 1) := by decide +kernel
theorem dX2_layOrigin_2 : decode cX2_layOrigin 2 = .ok (.invokevirtual 54, 3) := by decide +kernel
theorem dX2_layOrigin_5 : decode cX2_layOrigin 5 = .ok (.aload_n 0, 1) := by decide +kernel
theorem dX2_layOrigin_6 : decode cX2_layOrigin 6 = .ok (.iconst 0, 1) := by decide +kernel
theorem dX2_layOrigin_7 : decode cX2_layOrigin 7 = .ok (.invokevirtual 58, 3) := by decide +kernel
theorem dX2_layOrigin_10 : decode cX2_layOrigin 10 = .ok (.ifCond .ne 5, 3) := by decide +kernel
theorem dX2_layOrigin_13 : decode cX2_layOrigin 13 = .ok (.iconst 0, 1) := by decide +kernel
theorem dX2_layOrigin_14 : decode cX2_layOrigin 14 = .ok (.ireturn, 1) := by decide +kernel
theorem dX2_layOrigin_15 : decode cX2_layOrigin 15 = .ok (.aload_n 2, 1) := by decide +kernel
theorem dX2_layOrigin_16 : decode cX2_layOrigin 16 = .ok (.invokevirtual 43, 3) := by decide +kernel
theorem dX2_layOrigin_19 : decode cX2_layOrigin 19 = .ok (.iconst 0, 1) := by decide +kernel
theorem dX2_layOrigin_20 : decode cX2_layOrigin 20 = .ok (.istore_n 3, 1) := by decide +kernel
theorem dX2_layOrigin_21 : decode cX2_layOrigin 21 = .ok (.iconst 0, 1) := by decide +kernel
theorem dX2_layOrigin_22 : decode cX2_layOrigin 22 = .ok (.istore 4, 2) := by decide +kernel
theorem dX2_layOrigin_24 : decode cX2_layOrigin 24 = .ok (.iload 4, 2) := by decide +kernel
theorem dX2_layOrigin_26 : decode cX2_layOrigin 26 = .ok (.aload_n 1, 1) := by decide +kernel
theorem dX2_layOrigin_27 : decode cX2_layOrigin 27 = .ok (.getfield 39, 3) := by decide +kernel
theorem dX2_layOrigin_30 : decode cX2_layOrigin 30 = .ok (.if_icmp .ge 68, 3) := by decide +kernel
theorem dX2_layOrigin_33 : decode cX2_layOrigin 33 = .ok (.iload 4, 2) := by decide +kernel
theorem dX2_layOrigin_35 : decode cX2_layOrigin 35 = .ok (.iload_n 3, 1) := by decide +kernel
theorem dX2_layOrigin_36 : decode cX2_layOrigin 36 = .ok (.if_icmp .ne 56, 3) := by decide +kernel
theorem dX2_layOrigin_39 : decode cX2_layOrigin 39 = .ok (.aload_n 0, 1) := by decide +kernel
theorem dX2_layOrigin_40 : decode cX2_layOrigin 40 = .ok (.aload_n 1, 1) := by decide +kernel
theorem dX2_layOrigin_41 : decode cX2_layOrigin 41 = .ok (.iload 4, 2) := by decide +kernel
theorem dX2_layOrigin_43 : decode cX2_layOrigin 43 = .ok (.aload_n 0, 1) := by decide +kernel
theorem dX2_layOrigin_44 : decode cX2_layOrigin 44 = .ok (.getfield 12, 3) := by decide +kernel
theorem dX2_layOrigin_47 : decode cX2_layOrigin 47 = .ok (.invokevirtual 61, 3) := by decide +kernel
theorem dX2_layOrigin_50 : decode cX2_layOrigin 50 = .ok (.ifCond .ne 7, 3) := by decide +kernel
theorem dX2_layOrigin_53 : decode cX2_layOrigin 53 = .ok (.iconst 1, 1) := by decide +kernel
theorem dX2_layOrigin_54 : decode cX2_layOrigin 54 = .ok (.goto 4, 3) := by decide +kernel
theorem dX2_layOrigin_57 : decode cX2_layOrigin 57 = .ok (.iconst 0, 1) := by decide +kernel
theorem dX2_layOrigin_58 : decode cX2_layOrigin 58 = .ok (.istore 5, 2) := by decide +kernel
theorem dX2_layOrigin_60 : decode cX2_layOrigin 60 = .ok (.aload_n 2, 1) := by decide +kernel
theorem dX2_layOrigin_61 : decode cX2_layOrigin 61 = .ok (.iload 5, 2) := by decide +kernel
theorem dX2_layOrigin_63 : decode cX2_layOrigin 63 = .ok (.invokevirtual 65, 3) := by decide +kernel
theorem dX2_layOrigin_66 : decode cX2_layOrigin 66 = .ok (.iload 4, 2) := by decide +kernel
theorem dX2_layOrigin_68 : decode cX2_layOrigin 68 = .ok (.iload 5, 2) := by decide +kernel
theorem dX2_layOrigin_70 : decode cX2_layOrigin 70 = .ok (.ifCond .eq 13, 3) := by decide +kernel
theorem dX2_layOrigin_73 : decode cX2_layOrigin 73 = .ok (.aload_n 0, 1) := by decide +kernel
theorem dX2_layOrigin_74 : decode cX2_layOrigin 74 = .ok (.getfield 18, 3) := by decide +kernel
theorem dX2_layOrigin_77 : decode cX2_layOrigin 77 = .ok (.getfield 39, 3) := by decide +kernel
theorem dX2_layOrigin_80 : decode cX2_layOrigin 80 = .ok (.goto 10, 3) := by decide +kernel
theorem dX2_layOrigin_83 : decode cX2_layOrigin 83 = .ok (.aload_n 0, 1) := by decide +kernel
theorem dX2_layOrigin_84 : decode cX2_layOrigin 84 = .ok (.getfield 12, 3) := by decide +kernel
theorem dX2_layOrigin_87 : decode cX2_layOrigin 87 = .ok (.getfield 39, 3) := by decide +kernel
theorem dX2_layOrigin_90 : decode cX2_layOrigin 90 = .ok (.iadd, 1) := by decide +kernel
theorem dX2_layOrigin_91 : decode cX2_layOrigin 91 = .ok (.istore_n 3, 1) := by decide +kernel
theorem dX2_layOrigin_92 : decode cX2_layOrigin 92 = .ok (.iinc 4 1, 3) := by decide +kernel
theorem dX2_layOrigin_95 : decode cX2_layOrigin 95 = .ok (.goto (-71), 3) := by decide +kernel
theorem dX2_layOrigin_98 : decode cX2_layOrigin 98 = .ok (.iconst 1, 1) := by decide +kernel
theorem dX2_layOrigin_99 : decode cX2_layOrigin 99 = .ok (.ireturn, 1) := by decide +kernel
theorem dX2_markImages_0 : decode cX2_markImages 0 = .ok (.aload_n 0, 1) := by decide +kernel
theorem dX2_markImages_1 : decode cX2_markImages 1 = .ok (.getfield 21, 3) := by decide +kernel
theorem dX2_markImages_4 : decode cX2_markImages 4 = .ok (.arraylength, 1) := by decide +kernel
theorem dX2_markImages_5 : decode cX2_markImages 5 = .ok (.iconst 1, 1) := by decide +kernel
theorem dX2_markImages_6 : decode cX2_markImages 6 = .ok (.isub, 1) := by decide +kernel
theorem dX2_markImages_7 : decode cX2_markImages 7 = .ok (.istore_n 2, 1) := by decide +kernel
theorem dX2_markImages_8 : decode cX2_markImages 8 = .ok (.iload_n 2, 1) := by decide +kernel
theorem dX2_markImages_9 : decode cX2_markImages 9 = .ok (.ifCond .lt 54, 3) := by decide +kernel
theorem dX2_markImages_12 : decode cX2_markImages 12 = .ok (.aload_n 0, 1) := by decide +kernel
theorem dX2_markImages_13 : decode cX2_markImages 13 = .ok (.getfield 21, 3) := by decide +kernel
theorem dX2_markImages_16 : decode cX2_markImages 16 = .ok (.iload_n 2, 1) := by decide +kernel
theorem dX2_markImages_17 : decode cX2_markImages 17 = .ok (.iload_n 2, 1) := by decide +kernel
theorem dX2_markImages_18 : decode cX2_markImages 18 = .ok (.aload_n 1, 1) := by decide +kernel
theorem dX2_markImages_19 : decode cX2_markImages 19 = .ok (.getfield 39, 3) := by decide +kernel
theorem dX2_markImages_22 : decode cX2_markImages 22 = .ok (.if_icmp .eq 29, 3) := by decide +kernel
theorem dX2_markImages_25 : decode cX2_markImages 25 = .ok (.aload_n 0, 1) := by decide +kernel
theorem dX2_markImages_26 : decode cX2_markImages 26 = .ok (.aload_n 1, 1) := by decide +kernel
theorem dX2_markImages_27 : decode cX2_markImages 27 = .ok (.iload_n 2, 1) := by decide +kernel
theorem dX2_markImages_28 : decode cX2_markImages 28 = .ok (.aload_n 0, 1) := by decide +kernel
theorem dX2_markImages_29 : decode cX2_markImages 29 = .ok (.getfield 12, 3) := by decide +kernel
theorem dX2_markImages_32 : decode cX2_markImages 32 = .ok (.invokevirtual 61, 3) := by decide +kernel
theorem dX2_markImages_35 : decode cX2_markImages 35 = .ok (.ifCond .ne 16, 3) := by decide +kernel
theorem dX2_markImages_38 : decode cX2_markImages 38 = .ok (.aload_n 0, 1) := by decide +kernel
theorem dX2_markImages_39 : decode cX2_markImages 39 = .ok (.aload_n 1, 1) := by decide +kernel
theorem dX2_markImages_40 : decode cX2_markImages 40 = .ok (.iload_n 2, 1) := by decide +kernel
theorem dX2_markImages_41 : decode cX2_markImages 41 = .ok (.aload_n 0, 1) := by decide +kernel
theorem dX2_markImages_42 : decode cX2_markImages 42 = .ok (.getfield 18, 3) := by decide +kernel
theorem dX2_markImages_45 : decode cX2_markImages 45 = .ok (.invokevirtual 61, 3) := by decide +kernel
theorem dX2_markImages_48 : decode cX2_markImages 48 = .ok (.ifCond .eq 7, 3) := by decide +kernel
theorem dX2_markImages_51 : decode cX2_markImages 51 = .ok (.iconst 1, 1) := by decide +kernel
theorem dX2_markImages_52 : decode cX2_markImages 52 = .ok (.goto 4, 3) := by decide +kernel
theorem dX2_markImages_55 : decode cX2_markImages 55 = .ok (.iconst 0, 1) := by decide +kernel
theorem dX2_markImages_56 : decode cX2_markImages 56 = .ok (.bastore, 1) := by decide +kernel
theorem dX2_markImages_57 : decode cX2_markImages 57 = .ok (.iinc 2 (-1), 3) := by decide +kernel
theorem dX2_markImages_60 : decode cX2_markImages 60 = .ok (.goto (-52), 3) := by decide +kernel
theorem dX2_markImages_63 : decode cX2_markImages 63 = .ok (.return_, 1) := by decide +kernel
theorem dX2_isMarked_0 : decode cX2_isMarked 0 = .ok (.iload_n 1, 1) := by decide +kernel
theorem dX2_isMarked_1 : decode cX2_isMarked 1 = .ok (.ifCond .lt 25, 3) := by decide +kernel
theorem dX2_isMarked_4 : decode cX2_isMarked 4 = .ok (.iload_n 1, 1) := by decide +kernel
theorem dX2_isMarked_5 : decode cX2_isMarked 5 = .ok (.aload_n 0, 1) := by decide +kernel
theorem dX2_isMarked_6 : decode cX2_isMarked 6 = .ok (.getfield 21, 3) := by decide +kernel
theorem dX2_isMarked_9 : decode cX2_isMarked 9 = .ok (.arraylength, 1) := by decide +kernel
theorem dX2_isMarked_10 : decode cX2_isMarked 10 = .ok (.if_icmp .ge 16, 3) := by decide +kernel
theorem dX2_isMarked_13 : decode cX2_isMarked 13 = .ok (.aload_n 0, 1) := by decide +kernel
theorem dX2_isMarked_14 : decode cX2_isMarked 14 = .ok (.getfield 21, 3) := by decide +kernel
theorem dX2_isMarked_17 : decode cX2_isMarked 17 = .ok (.iload_n 1, 1) := by decide +kernel
theorem dX2_isMarked_18 : decode cX2_isMarked 18 = .ok (.baload, 1) := by decide +kernel
theorem dX2_isMarked_19 : decode cX2_isMarked 19 = .ok (.ifCond .eq 7, 3) := by decide +kernel
theorem dX2_isMarked_22 : decode cX2_isMarked 22 = .ok (.iconst 1, 1) := by decide +kernel
theorem dX2_isMarked_23 : decode cX2_isMarked 23 = .ok (.goto 4, 3) := by decide +kernel
theorem dX2_isMarked_26 : decode cX2_isMarked 26 = .ok (.iconst 0, 1) := by decide +kernel
theorem dX2_isMarked_27 : decode cX2_isMarked 27 = .ok (.ireturn, 1) := by decide +kernel
theorem dX2_goesOn_0 : decode cX2_goesOn 0 = .ok (.aload_n 1, 1) := by decide +kernel
theorem dX2_goesOn_1 : decode cX2_goesOn 1 = .ok (.iload_n 2, 1) := by decide +kernel
theorem dX2_goesOn_2 : decode cX2_goesOn 2 = .ok (.aload_n 3, 1) := by decide +kernel
theorem dX2_goesOn_3 : decode cX2_goesOn 3 = .ok (.invokestatic 69, 3) := by decide +kernel
theorem dX2_goesOn_6 : decode cX2_goesOn 6 = .ok (.ifCond .eq 20, 3) := by decide +kernel
theorem dX2_goesOn_9 : decode cX2_goesOn 9 = .ok (.aload_n 0, 1) := by decide +kernel
theorem dX2_goesOn_10 : decode cX2_goesOn 10 = .ok (.iload_n 2, 1) := by decide +kernel
theorem dX2_goesOn_11 : decode cX2_goesOn 11 = .ok (.aload_n 3, 1) := by decide +kernel
theorem dX2_goesOn_12 : decode cX2_goesOn 12 = .ok (.getfield 39, 3) := by decide +kernel
theorem dX2_goesOn_15 : decode cX2_goesOn 15 = .ok (.iadd, 1) := by decide +kernel
theorem dX2_goesOn_16 : decode cX2_goesOn 16 = .ok (.invokevirtual 58, 3) := by decide +kernel
theorem dX2_goesOn_19 : decode cX2_goesOn 19 = .ok (.ifCond .eq 7, 3) := by decide +kernel
theorem dX2_goesOn_22 : decode cX2_goesOn 22 = .ok (.iconst 1, 1) := by decide +kernel
theorem dX2_goesOn_23 : decode cX2_goesOn 23 = .ok (.goto 4, 3) := by decide +kernel
theorem dX2_goesOn_26 : decode cX2_goesOn 26 = .ok (.iconst 0, 1) := by decide +kernel
theorem dX2_goesOn_27 : decode cX2_goesOn 27 = .ok (.ireturn, 1) := by decide +kernel
theorem dX4_init_0 : decode cX4_init 0 = .ok (.aload_n 0, 1) := by decide +kernel
theorem dX4_init_1 : decode cX4_init 1 = .ok (.invokespecial 3, 3) := by decide +kernel
theorem dX4_init_4 : decode cX4_init 4 = .ok (.aload_n 0, 1) := by decide +kernel
theorem dX4_init_5 : decode cX4_init 5 = .ok (.bipush 64, 2) := by decide +kernel
theorem dX4_init_7 : decode cX4_init 7 = .ok (.newarray .boolean, 2) := by decide +kernel
theorem dX4_init_9 : decode cX4_init 9 = .ok (.putfield 9, 3) := by decide +kernel
theorem dX4_init_12 : decode cX4_init 12 = .ok (.return_, 1) := by decide +kernel
theorem dX4_isUp_0 : decode cX4_isUp 0 = .ok (.iload_n 1, 1) := by decide +kernel
theorem dX4_isUp_1 : decode cX4_isUp 1 = .ok (.ifCond .lt 25, 3) := by decide +kernel
theorem dX4_isUp_4 : decode cX4_isUp 4 = .ok (.iload_n 1, 1) := by decide +kernel
theorem dX4_isUp_5 : decode cX4_isUp 5 = .ok (.aload_n 0, 1) := by decide +kernel
theorem dX4_isUp_6 : decode cX4_isUp 6 = .ok (.getfield 9, 3) := by decide +kernel
theorem dX4_isUp_9 : decode cX4_isUp 9 = .ok (.arraylength, 1) := by decide +kernel
theorem dX4_isUp_10 : decode cX4_isUp 10 = .ok (.if_icmp .ge 16, 3) := by decide +kernel
theorem dX4_isUp_13 : decode cX4_isUp 13 = .ok (.aload_n 0, 1) := by decide +kernel
theorem dX4_isUp_14 : decode cX4_isUp 14 = .ok (.getfield 9, 3) := by decide +kernel
theorem dX4_isUp_17 : decode cX4_isUp 17 = .ok (.iload_n 1, 1) := by decide +kernel
theorem dX4_isUp_18 : decode cX4_isUp 18 = .ok (.baload, 1) := by decide +kernel
theorem dX4_isUp_19 : decode cX4_isUp 19 = .ok (.ifCond .eq 7, 3) := by decide +kernel
theorem dX4_isUp_22 : decode cX4_isUp 22 = .ok (.iconst 1, 1) := by decide +kernel
theorem dX4_isUp_23 : decode cX4_isUp 23 = .ok (.goto 4, 3) := by decide +kernel
theorem dX4_isUp_26 : decode cX4_isUp 26 = .ok (.iconst 0, 1) := by decide +kernel
theorem dX4_isUp_27 : decode cX4_isUp 27 = .ok (.ireturn, 1) := by decide +kernel
theorem dX4_put_0 : decode cX4_put 0 = .ok (.iload_n 1, 1) := by decide +kernel
theorem dX4_put_1 : decode cX4_put 1 = .ok (.ifCond .lt 19, 3) := by decide +kernel
theorem dX4_put_4 : decode cX4_put 4 = .ok (.iload_n 1, 1) := by decide +kernel
theorem dX4_put_5 : decode cX4_put 5 = .ok (.aload_n 0, 1) := by decide +kernel
theorem dX4_put_6 : decode cX4_put 6 = .ok (.getfield 9, 3) := by decide +kernel
theorem dX4_put_9 : decode cX4_put 9 = .ok (.arraylength, 1) := by decide +kernel
theorem dX4_put_10 : decode cX4_put 10 = .ok (.if_icmp .ge 10, 3) := by decide +kernel
theorem dX4_put_13 : decode cX4_put 13 = .ok (.aload_n 0, 1) := by decide +kernel
theorem dX4_put_14 : decode cX4_put 14 = .ok (.getfield 9, 3) := by decide +kernel
theorem dX4_put_17 : decode cX4_put 17 = .ok (.iload_n 1, 1) := by decide +kernel
theorem dX4_put_18 : decode cX4_put 18 = .ok (.iload_n 2, 1) := by decide +kernel
theorem dX4_put_19 : decode cX4_put 19 = .ok (.bastore, 1) := by decide +kernel
theorem dX4_put_20 : decode cX4_put 20 = .ok (.return_, 1) := by decide +kernel
theorem dX4_clear_0 : decode cX4_clear 0 = .ok (.aload_n 0, 1) := by decide +kernel
theorem dX4_clear_1 : decode cX4_clear 1 = .ok (.iconst 0, 1) := by decide +kernel
theorem dX4_clear_2 : decode cX4_clear 2 = .ok (.putfield 15, 3) := by decide +kernel
theorem dX4_clear_5 : decode cX4_clear 5 = .ok (.return_, 1) := by decide +kernel
theorem dX4_add_0 : decode cX4_add 0 = .ok (.aload_n 0, 1) := by decide +kernel
theorem dX4_add_1 : decode cX4_add 1 = .ok (.getfield 15, 3) := by decide +kernel
theorem dX4_add_4 : decode cX4_add 4 = .ok (.ifCond .lt 35, 3) := by decide +kernel
theorem dX4_add_7 : decode cX4_add 7 = .ok (.aload_n 0, 1) := by decide +kernel
theorem dX4_add_8 : decode cX4_add 8 = .ok (.getfield 15, 3) := by decide +kernel
theorem dX4_add_11 : decode cX4_add 11 = .ok (.aload_n 0, 1) := by decide +kernel
theorem dX4_add_12 : decode cX4_add 12 = .ok (.getfield 9, 3) := by decide +kernel
theorem dX4_add_15 : decode cX4_add 15 = .ok (.arraylength, 1) := by decide +kernel
theorem dX4_add_16 : decode cX4_add 16 = .ok (.if_icmp .ge 23, 3) := by decide +kernel
theorem dX4_add_19 : decode cX4_add 19 = .ok (.aload_n 0, 1) := by decide +kernel
theorem dX4_add_20 : decode cX4_add 20 = .ok (.getfield 9, 3) := by decide +kernel
theorem dX4_add_23 : decode cX4_add 23 = .ok (.aload_n 0, 1) := by decide +kernel
theorem dX4_add_24 : decode cX4_add 24 = .ok (.getfield 15, 3) := by decide +kernel
theorem dX4_add_27 : decode cX4_add 27 = .ok (.iload_n 1, 1) := by decide +kernel
theorem dX4_add_28 : decode cX4_add 28 = .ok (.bastore, 1) := by decide +kernel
theorem dX4_add_29 : decode cX4_add 29 = .ok (.aload_n 0, 1) := by decide +kernel
theorem dX4_add_30 : decode cX4_add 30 = .ok (.dup, 1) := by decide +kernel
theorem dX4_add_31 : decode cX4_add 31 = .ok (.getfield 15, 3) := by decide +kernel
theorem dX4_add_34 : decode cX4_add 34 = .ok (.iconst 1, 1) := by decide +kernel
theorem dX4_add_35 : decode cX4_add 35 = .ok (.iadd, 1) := by decide +kernel
theorem dX4_add_36 : decode cX4_add 36 = .ok (.putfield 15, 3) := by decide +kernel
theorem dX4_add_39 : decode cX4_add 39 = .ok (.return_, 1) := by decide +kernel
theorem dX4_addPart_0 : decode cX4_addPart 0 = .ok (.iload_n 2, 1) := by decide +kernel
theorem dX4_addPart_1 : decode cX4_addPart 1 = .ok (.istore 4, 2) := by decide +kernel
theorem dX4_addPart_3 : decode cX4_addPart 3 = .ok (.iload 4, 2) := by decide +kernel
theorem dX4_addPart_5 : decode cX4_addPart 5 = .ok (.iload_n 3, 1) := by decide +kernel
theorem dX4_addPart_6 : decode cX4_addPart 6 = .ok (.if_icmp .ge 19, 3) := by decide +kernel
theorem dX4_addPart_9 : decode cX4_addPart 9 = .ok (.aload_n 0, 1) := by decide +kernel
theorem dX4_addPart_10 : decode cX4_addPart 10 = .ok (.aload_n 1, 1) := by decide +kernel
theorem dX4_addPart_11 : decode cX4_addPart 11 = .ok (.iload 4, 2) := by decide +kernel
theorem dX4_addPart_13 : decode cX4_addPart 13 = .ok (.invokevirtual 19, 3) := by decide +kernel
theorem dX4_addPart_16 : decode cX4_addPart 16 = .ok (.invokevirtual 23, 3) := by decide +kernel
theorem dX4_addPart_19 : decode cX4_addPart 19 = .ok (.iinc 4 1, 3) := by decide +kernel
theorem dX4_addPart_22 : decode cX4_addPart 22 = .ok (.goto (-19), 3) := by decide +kernel
theorem dX4_addPart_25 : decode cX4_addPart 25 = .ok (.return_, 1) := by decide +kernel
theorem dX4_take_0 : decode cX4_take 0 = .ok (.iconst 0, 1) := by decide +kernel
theorem dX4_take_1 : decode cX4_take 1 = .ok (.istore_n 2, 1) := by decide +kernel
theorem dX4_take_2 : decode cX4_take 2 = .ok (.iload_n 2, 1) := by decide +kernel
theorem dX4_take_3 : decode cX4_take 3 = .ok (.aload_n 1, 1) := by decide +kernel
theorem dX4_take_4 : decode cX4_take 4 = .ok (.getfield 15, 3) := by decide +kernel
theorem dX4_take_7 : decode cX4_take 7 = .ok (.if_icmp .ge 19, 3) := by decide +kernel
theorem dX4_take_10 : decode cX4_take 10 = .ok (.aload_n 0, 1) := by decide +kernel
theorem dX4_take_11 : decode cX4_take 11 = .ok (.iload_n 2, 1) := by decide +kernel
theorem dX4_take_12 : decode cX4_take 12 = .ok (.aload_n 1, 1) := by decide +kernel
theorem dX4_take_13 : decode cX4_take 13 = .ok (.iload_n 2, 1) := by decide +kernel
theorem dX4_take_14 : decode cX4_take 14 = .ok (.invokevirtual 19, 3) := by decide +kernel
theorem dX4_take_17 : decode cX4_take 17 = .ok (.invokevirtual 27, 3) := by decide +kernel
theorem dX4_take_20 : decode cX4_take 20 = .ok (.iinc 2 1, 3) := by decide +kernel
theorem dX4_take_23 : decode cX4_take 23 = .ok (.goto (-21), 3) := by decide +kernel
theorem dX4_take_26 : decode cX4_take 26 = .ok (.aload_n 0, 1) := by decide +kernel
theorem dX4_take_27 : decode cX4_take 27 = .ok (.aload_n 1, 1) := by decide +kernel
theorem dX4_take_28 : decode cX4_take 28 = .ok (.getfield 15, 3) := by decide +kernel
theorem dX4_take_31 : decode cX4_take 31 = .ok (.putfield 15, 3) := by decide +kernel
theorem dX4_take_34 : decode cX4_take 34 = .ok (.return_, 1) := by decide +kernel
theorem dX4_takeTurned_0 : decode cX4_takeTurned 0 = .ok (.aload_n 0, 1) := by decide +kernel
theorem dX4_takeTurned_1 : decode cX4_takeTurned 1 = .ok (.invokevirtual 31, 3) := by decide +kernel
theorem dX4_takeTurned_4 : decode cX4_takeTurned 4 = .ok (.aload_n 1, 1) := by decide +kernel
theorem dX4_takeTurned_5 : decode cX4_takeTurned 5 = .ok (.getfield 15, 3) := by decide +kernel
theorem dX4_takeTurned_8 : decode cX4_takeTurned 8 = .ok (.iconst 1, 1) := by decide +kernel
theorem dX4_takeTurned_9 : decode cX4_takeTurned 9 = .ok (.isub, 1) := by decide +kernel
theorem dX4_takeTurned_10 : decode cX4_takeTurned 10 = .ok (.istore_n 2, 1) := by decide +kernel
theorem dX4_takeTurned_11 : decode cX4_takeTurned 11 = .ok (.iload_n 2, 1) := by decide +kernel
theorem dX4_takeTurned_12 : decode cX4_takeTurned 12 = .ok (.ifCond .lt 18, 3) := by decide +kernel
theorem dX4_takeTurned_15 : decode cX4_takeTurned 15 = .ok (.aload_n 0, 1) := by decide +kernel
theorem dX4_takeTurned_16 : decode cX4_takeTurned 16 = .ok (.aload_n 1, 1) := by decide +kernel
theorem dX4_takeTurned_17 : decode cX4_takeTurned 17 = .ok (.iload_n 2, 1) := by decide +kernel
theorem dX4_takeTurned_18 : decode cX4_takeTurned 18 = .ok (.invokevirtual 19, 3) := by decide +kernel
theorem dX4_takeTurned_21 : decode cX4_takeTurned 21 = .ok (.invokevirtual 23, 3) := by decide +kernel
theorem dX4_takeTurned_24 : decode cX4_takeTurned 24 = .ok (.iinc 2 (-1), 3) := by decide +kernel
theorem dX4_takeTurned_27 : decode cX4_takeTurned 27 = .ok (.goto (-16), 3) := by decide +kernel
theorem dX4_takeTurned_30 : decode cX4_takeTurned 30 = .ok (.return_, 1) := by decide +kernel
theorem dX4_takeCode_0 : decode cX4_takeCode 0 = .ok (.aload_n 0, 1) := by decide +kernel
theorem dX4_takeCode_1 : decode cX4_takeCode 1 = .ok (.invokevirtual 31, 3) := by decide +kernel
theorem dX4_takeCode_4 : decode cX4_takeCode 4 = .ok (.iconst 0, 1) := by decide +kernel
theorem dX4_takeCode_5 : decode cX4_takeCode 5 = .ok (.istore_n 2, 1) := by decide +kernel
theorem dX4_takeCode_6 : decode cX4_takeCode 6 = .ok (.bipush 15, 2) := by decide +kernel
theorem dX4_takeCode_8 : decode cX4_takeCode 8 = .ok (.istore_n 3, 1) := by decide +kernel
theorem dX4_takeCode_9 : decode cX4_takeCode 9 = .ok (.iload_n 3, 1) := by decide +kernel
theorem dX4_takeCode_10 : decode cX4_takeCode 10 = .ok (.ifCond .lt 50, 3) := by decide +kernel
theorem dX4_takeCode_13 : decode cX4_takeCode 13 = .ok (.iload_n 1, 1) := by decide +kernel
theorem dX4_takeCode_14 : decode cX4_takeCode 14 = .ok (.iload_n 3, 1) := by decide +kernel
theorem dX4_takeCode_15 : decode cX4_takeCode 15 = .ok (.ishr, 1) := by decide +kernel
theorem dX4_takeCode_16 : decode cX4_takeCode 16 = .ok (.iconst 1, 1) := by decide +kernel
theorem dX4_takeCode_17 : decode cX4_takeCode 17 = .ok (.iand, 1) := by decide +kernel
theorem dX4_takeCode_18 : decode cX4_takeCode 18 = .ok (.iconst 1, 1) := by decide +kernel
theorem dX4_takeCode_19 : decode cX4_takeCode 19 = .ok (.if_icmp .ne 7, 3) := by decide +kernel
theorem dX4_takeCode_22 : decode cX4_takeCode 22 = .ok (.iconst 1, 1) := by decide +kernel
theorem dX4_takeCode_23 : decode cX4_takeCode 23 = .ok (.goto 4, 3) := by decide +kernel
theorem dX4_takeCode_26 : decode cX4_takeCode 26 = .ok (.iconst 0, 1) := by decide +kernel
theorem dX4_takeCode_27 : decode cX4_takeCode 27 = .ok (.istore 4, 2) := by decide +kernel
theorem dX4_takeCode_29 : decode cX4_takeCode 29 = .ok (.iload_n 2, 1) := by decide +kernel
theorem dX4_takeCode_30 : decode cX4_takeCode 30 = .ok (.ifCond .eq 9, 3) := by decide +kernel
theorem dX4_takeCode_33 : decode cX4_takeCode 33 = .ok (.aload_n 0, 1) := by decide +kernel
theorem dX4_takeCode_34 : decode cX4_takeCode 34 = .ok (.iload 4, 2) := by decide +kernel
theorem dX4_takeCode_36 : decode cX4_takeCode 36 = .ok (.invokevirtual 23, 3) := by decide +kernel
theorem dX4_takeCode_39 : decode cX4_takeCode 39 = .ok (.iload_n 2, 1) := by decide +kernel
theorem dX4_takeCode_40 : decode cX4_takeCode 40 = .ok (.ifCond .ne 8, 3) := by decide +kernel
theorem dX4_takeCode_43 : decode cX4_takeCode 43 = .ok (.iload 4, 2) := by decide +kernel
theorem dX4_takeCode_45 : decode cX4_takeCode 45 = .ok (.ifCond .eq 7, 3) := by decide +kernel
theorem dX4_takeCode_48 : decode cX4_takeCode 48 = .ok (.iconst 1, 1) := by decide +kernel
theorem dX4_takeCode_49 : decode cX4_takeCode 49 = .ok (.goto 4, 3) := by decide +kernel
theorem dX4_takeCode_52 : decode cX4_takeCode 52 = .ok (.iconst 0, 1) := by decide +kernel
theorem dX4_takeCode_53 : decode cX4_takeCode 53 = .ok (.istore_n 2, 1) := by decide +kernel
theorem dX4_takeCode_54 : decode cX4_takeCode 54 = .ok (.iinc 3 (-1), 3) := by decide +kernel
theorem dX4_takeCode_57 : decode cX4_takeCode 57 = .ok (.goto (-48), 3) := by decide +kernel
theorem dX4_takeCode_60 : decode cX4_takeCode 60 = .ok (.return_, 1) := by decide +kernel
theorem dX5_init_0 : decode cX5_init 0 = .ok (.aload_n 0, 1) := by decide +kernel
theorem dX5_init_1 : decode cX5_init 1 = .ok (.invokespecial 1, 3) := by decide +kernel
theorem dX5_init_4 : decode cX5_init 4 = .ok (.aload_n 0, 1) := by decide +kernel
theorem dX5_init_5 : decode cX5_init 5 = .ok (.iconst 3, 1) := by decide +kernel
theorem dX5_init_6 : decode cX5_init 6 = .ok (.anewarray 9, 3) := by decide +kernel
theorem dX5_init_9 : decode cX5_init 9 = .ok (.putfield 11, 3) := by decide +kernel
theorem dX5_init_12 : decode cX5_init 12 = .ok (.aload_n 0, 1) := by decide +kernel
theorem dX5_init_13 : decode cX5_init 13 = .ok (.iconst 2, 1) := by decide +kernel
theorem dX5_init_14 : decode cX5_init 14 = .ok (.anewarray 15, 3) := by decide +kernel
theorem dX5_init_17 : decode cX5_init 17 = .ok (.putfield 17, 3) := by decide +kernel
theorem dX5_init_20 : decode cX5_init 20 = .ok (.aload_n 0, 1) := by decide +kernel
theorem dX5_init_21 : decode cX5_init 21 = .ok (.new 21, 3) := by decide +kernel
theorem dX5_init_24 : decode cX5_init 24 = .ok (.dup, 1) := by decide +kernel
theorem dX5_init_25 : decode cX5_init 25 = .ok (.invokespecial 23, 3) := by decide +kernel
theorem dX5_init_28 : decode cX5_init 28 = .ok (.putfield 24, 3) := by decide +kernel
theorem dX5_init_31 : decode cX5_init 31 = .ok (.aload_n 0, 1) := by decide +kernel
theorem dX5_init_32 : decode cX5_init 32 = .ok (.new 9, 3) := by decide +kernel
theorem dX5_init_35 : decode cX5_init 35 = .ok (.dup, 1) := by decide +kernel
theorem dX5_init_36 : decode cX5_init 36 = .ok (.invokespecial 28, 3) := by decide +kernel
theorem dX5_init_39 : decode cX5_init 39 = .ok (.putfield 29, 3) := by decide +kernel
theorem dX5_init_42 : decode cX5_init 42 = .ok (.aload_n 0, 1) := by decide +kernel
theorem dX5_init_43 : decode cX5_init 43 = .ok (.new 9, 3) := by decide +kernel
theorem dX5_init_46 : decode cX5_init 46 = .ok (.dup, 1) := by decide +kernel
theorem dX5_init_47 : decode cX5_init 47 = .ok (.invokespecial 28, 3) := by decide +kernel
theorem dX5_init_50 : decode cX5_init 50 = .ok (.putfield 33, 3) := by decide +kernel
theorem dX5_init_53 : decode cX5_init 53 = .ok (.iconst 0, 1) := by decide +kernel
theorem dX5_init_54 : decode cX5_init 54 = .ok (.istore_n 1, 1) := by decide +kernel
theorem dX5_init_55 : decode cX5_init 55 = .ok (.iload_n 1, 1) := by decide +kernel
theorem dX5_init_56 : decode cX5_init 56 = .ok (.aload_n 0, 1) := by decide +kernel
theorem dX5_init_57 : decode cX5_init 57 = .ok (.getfield 11, 3) := by decide +kernel
theorem dX5_init_60 : decode cX5_init 60 = .ok (.arraylength, 1) := by decide +kernel
theorem dX5_init_61 : decode cX5_init 61 = .ok (.if_icmp .ge 22, 3) := by decide +kernel
theorem dX5_init_64 : decode cX5_init 64 = .ok (.aload_n 0, 1) := by decide +kernel
theorem dX5_init_65 : decode cX5_init 65 = .ok (.getfield 11, 3) := by decide +kernel
theorem dX5_init_68 : decode cX5_init 68 = .ok (.iload_n 1, 1) := by decide +kernel
theorem dX5_init_69 : decode cX5_init 69 = .ok (.new 9, 3) := by decide +kernel
theorem dX5_init_72 : decode cX5_init 72 = .ok (.dup, 1) := by decide +kernel
theorem dX5_init_73 : decode cX5_init 73 = .ok (.invokespecial 28, 3) := by decide +kernel
theorem dX5_init_76 : decode cX5_init 76 = .ok (.aastore, 1) := by decide +kernel
theorem dX5_init_77 : decode cX5_init 77 = .ok (.iinc 1 1, 3) := by decide +kernel
theorem dX5_init_80 : decode cX5_init 80 = .ok (.goto (-25), 3) := by decide +kernel
theorem dX5_init_83 : decode cX5_init 83 = .ok (.iconst 0, 1) := by decide +kernel
theorem dX5_init_84 : decode cX5_init 84 = .ok (.istore_n 1, 1) := by decide +kernel
theorem dX5_init_85 : decode cX5_init 85 = .ok (.iload_n 1, 1) := by decide +kernel
theorem dX5_init_86 : decode cX5_init 86 = .ok (.aload_n 0, 1) := by decide +kernel
theorem dX5_init_87 : decode cX5_init 87 = .ok (.getfield 17, 3) := by decide +kernel
theorem dX5_init_90 : decode cX5_init 90 = .ok (.arraylength, 1) := by decide +kernel
theorem dX5_init_91 : decode cX5_init 91 = .ok (.if_icmp .ge 22, 3) := by decide +kernel
theorem dX5_init_94 : decode cX5_init 94 = .ok (.aload_n 0, 1) := by decide +kernel
theorem dX5_init_95 : decode cX5_init 95 = .ok (.getfield 17, 3) := by decide +kernel
theorem dX5_init_98 : decode cX5_init 98 = .ok (.iload_n 1, 1) := by decide +kernel
theorem dX5_init_99 : decode cX5_init 99 = .ok (.new 15, 3) := by decide +kernel
theorem dX5_init_102 : decode cX5_init 102 = .ok (.dup, 1) := by decide +kernel
theorem dX5_init_103 : decode cX5_init 103 = .ok (.invokespecial 36, 3) := by decide +kernel
theorem dX5_init_106 : decode cX5_init 106 = .ok (.aastore, 1) := by decide +kernel
theorem dX5_init_107 : decode cX5_init 107 = .ok (.iinc 1 1, 3) := by decide +kernel
theorem dX5_init_110 : decode cX5_init 110 = .ok (.goto (-25), 3) := by decide +kernel
theorem dX5_init_113 : decode cX5_init 113 = .ok (.return_, 1) := by decide +kernel
theorem dX5_append_0 : decode cX5_append 0 = .ok (.aload_n 0, 1) := by decide +kernel
theorem dX5_append_1 : decode cX5_append 1 = .ok (.iload_n 1, 1) := by decide +kernel
theorem dX5_append_2 : decode cX5_append 2 = .ok (.invokevirtual 37, 3) := by decide +kernel
theorem dX5_append_5 : decode cX5_append 5 = .ok (.astore_n 3, 1) := by decide +kernel
theorem dX5_append_6 : decode cX5_append 6 = .ok (.aload_n 0, 1) := by decide +kernel
theorem dX5_append_7 : decode cX5_append 7 = .ok (.aload_n 3, 1) := by decide +kernel
theorem dX5_append_8 : decode cX5_append 8 = .ok (.aload_n 3, 1) := by decide +kernel
theorem dX5_append_9 : decode cX5_append 9 = .ok (.getfield 50, 3) := by decide +kernel
theorem dX5_append_12 : decode cX5_append 12 = .ok (.aload_n 3, 1) := by decide +kernel
theorem dX5_append_13 : decode cX5_append 13 = .ok (.getfield 50, 3) := by decide +kernel
theorem dX5_append_16 : decode cX5_append 16 = .ok (.aload_n 0, 1) := by decide +kernel
theorem dX5_append_17 : decode cX5_append 17 = .ok (.iload_n 2, 1) := by decide +kernel
theorem dX5_append_18 : decode cX5_append 18 = .ok (.invokevirtual 37, 3) := by decide +kernel
theorem dX5_append_21 : decode cX5_append 21 = .ok (.invokevirtual 58, 3) := by decide +kernel
theorem dX5_append_24 : decode cX5_append 24 = .ok (.ireturn, 1) := by decide +kernel
theorem dX5_setSign_0 : decode cX5_setSign 0 = .ok (.aload_n 0, 1) := by decide +kernel
theorem dX5_setSign_1 : decode cX5_setSign 1 = .ok (.iload_n 1, 1) := by decide +kernel
theorem dX5_setSign_2 : decode cX5_setSign 2 = .ok (.invokevirtual 37, 3) := by decide +kernel
theorem dX5_setSign_5 : decode cX5_setSign 5 = .ok (.astore 4, 2) := by decide +kernel
theorem dX5_setSign_7 : decode cX5_setSign 7 = .ok (.iload_n 2, 1) := by decide +kernel
theorem dX5_setSign_8 : decode cX5_setSign 8 = .ok (.ifCond .lt 16, 3) := by decide +kernel
theorem dX5_setSign_11 : decode cX5_setSign 11 = .ok (.iload_n 2, 1) := by decide +kernel
theorem dX5_setSign_12 : decode cX5_setSign 12 = .ok (.aload 4, 2) := by decide +kernel
theorem dX5_setSign_14 : decode cX5_setSign 14 = .ok (.getfield 50, 3) := by decide +kernel
theorem dX5_setSign_17 : decode cX5_setSign 17 = .ok (.if_icmp .ge 7, 3) := by decide +kernel
theorem dX5_setSign_20 : decode cX5_setSign 20 = .ok (.iconst 1, 1) := by decide +kernel
theorem dX5_setSign_21 : decode cX5_setSign 21 = .ok (.goto 4, 3) := by decide +kernel
theorem dX5_setSign_24 : decode cX5_setSign 24 = .ok (.iconst 0, 1) := by decide +kernel
theorem dX5_setSign_25 : decode cX5_setSign 25 = .ok (.invokestatic 62, 3) := by decide +kernel
theorem dX5_setSign_28 : decode cX5_setSign 28 = .ok (.aload 4, 2) := by decide +kernel
theorem dX5_setSign_30 : decode cX5_setSign 30 = .ok (.iload_n 2, 1) := by decide +kernel
theorem dX5_setSign_31 : decode cX5_setSign 31 = .ok (.invokevirtual 71, 3) := by decide +kernel
theorem dX5_setSign_34 : decode cX5_setSign 34 = .ok (.iload_n 3, 1) := by decide +kernel
theorem dX5_setSign_35 : decode cX5_setSign 35 = .ok (.if_icmp .eq 7, 3) := by decide +kernel
theorem dX5_setSign_38 : decode cX5_setSign 38 = .ok (.iconst 1, 1) := by decide +kernel
theorem dX5_setSign_39 : decode cX5_setSign 39 = .ok (.goto 4, 3) := by decide +kernel
theorem dX5_setSign_42 : decode cX5_setSign 42 = .ok (.iconst 0, 1) := by decide +kernel
theorem dX5_setSign_43 : decode cX5_setSign 43 = .ok (.istore 5, 2) := by decide +kernel
theorem dX5_setSign_45 : decode cX5_setSign 45 = .ok (.aload 4, 2) := by decide +kernel
theorem dX5_setSign_47 : decode cX5_setSign 47 = .ok (.iload_n 2, 1) := by decide +kernel
theorem dX5_setSign_48 : decode cX5_setSign 48 = .ok (.iload_n 3, 1) := by decide +kernel
theorem dX5_setSign_49 : decode cX5_setSign 49 = .ok (.invokevirtual 75, 3) := by decide +kernel
theorem dX5_setSign_52 : decode cX5_setSign 52 = .ok (.aload_n 0, 1) := by decide +kernel
theorem dX5_setSign_53 : decode cX5_setSign 53 = .ok (.iload 5, 2) := by decide +kernel
theorem dX5_setSign_55 : decode cX5_setSign 55 = .ok (.invokestatic 79, 3) := by decide +kernel
theorem dX5_setSign_58 : decode cX5_setSign 58 = .ok (.invokevirtual 54, 3) := by decide +kernel
theorem dX5_setSign_61 : decode cX5_setSign 61 = .ok (.ireturn, 1) := by decide +kernel
theorem dX5_cutTo_0 : decode cX5_cutTo 0 = .ok (.aload_n 0, 1) := by decide +kernel
theorem dX5_cutTo_1 : decode cX5_cutTo 1 = .ok (.iload_n 1, 1) := by decide +kernel
theorem dX5_cutTo_2 : decode cX5_cutTo 2 = .ok (.invokevirtual 37, 3) := by decide +kernel
theorem dX5_cutTo_5 : decode cX5_cutTo 5 = .ok (.astore_n 3, 1) := by decide +kernel
theorem dX5_cutTo_6 : decode cX5_cutTo 6 = .ok (.iload_n 2, 1) := by decide +kernel
theorem dX5_cutTo_7 : decode cX5_cutTo 7 = .ok (.ifCond .lt 13, 3) := by decide +kernel
theorem dX5_cutTo_10 : decode cX5_cutTo 10 = .ok (.iload_n 2, 1) := by decide +kernel
theorem dX5_cutTo_11 : decode cX5_cutTo 11 = .ok (.bipush 64, 2) := by decide +kernel
theorem dX5_cutTo_13 : decode cX5_cutTo 13 = .ok (.if_icmp .gt 7, 3) := by decide +kernel
theorem dX5_cutTo_16 : decode cX5_cutTo 16 = .ok (.iconst 1, 1) := by decide +kernel
theorem dX5_cutTo_17 : decode cX5_cutTo 17 = .ok (.goto 4, 3) := by decide +kernel
theorem dX5_cutTo_20 : decode cX5_cutTo 20 = .ok (.iconst 0, 1) := by decide +kernel
theorem dX5_cutTo_21 : decode cX5_cutTo 21 = .ok (.invokestatic 42, 3) := by decide +kernel
theorem dX5_cutTo_24 : decode cX5_cutTo 24 = .ok (.aload_n 3, 1) := by decide +kernel
theorem dX5_cutTo_25 : decode cX5_cutTo 25 = .ok (.getfield 50, 3) := by decide +kernel
theorem dX5_cutTo_28 : decode cX5_cutTo 28 = .ok (.istore 4, 2) := by decide +kernel
theorem dX5_cutTo_30 : decode cX5_cutTo 30 = .ok (.aload_n 0, 1) := by decide +kernel
theorem dX5_cutTo_31 : decode cX5_cutTo 31 = .ok (.getfield 29, 3) := by decide +kernel
theorem dX5_cutTo_34 : decode cX5_cutTo 34 = .ok (.invokevirtual 65, 3) := by decide +kernel
theorem dX5_cutTo_37 : decode cX5_cutTo 37 = .ok (.aload_n 0, 1) := by decide +kernel
theorem dX5_cutTo_38 : decode cX5_cutTo 38 = .ok (.getfield 29, 3) := by decide +kernel
theorem dX5_cutTo_41 : decode cX5_cutTo 41 = .ok (.aload_n 3, 1) := by decide +kernel
theorem dX5_cutTo_42 : decode cX5_cutTo 42 = .ok (.iconst 0, 1) := by decide +kernel
theorem dX5_cutTo_43 : decode cX5_cutTo 43 = .ok (.iload 4, 2) := by decide +kernel
theorem dX5_cutTo_45 : decode cX5_cutTo 45 = .ok (.iload_n 2, 1) := by decide +kernel
theorem dX5_cutTo_46 : decode cX5_cutTo 46 = .ok (.invokestatic 87, 3) := by decide +kernel
theorem dX5_cutTo_49 : decode cX5_cutTo 49 = .ok (.invokevirtual 93, 3) := by decide +kernel
theorem dX5_cutTo_52 : decode cX5_cutTo 52 = .ok (.iload 4, 2) := by decide +kernel
theorem dX5_cutTo_54 : decode cX5_cutTo 54 = .ok (.istore 5, 2) := by decide +kernel
theorem dX5_cutTo_56 : decode cX5_cutTo 56 = .ok (.iload 5, 2) := by decide +kernel
theorem dX5_cutTo_58 : decode cX5_cutTo 58 = .ok (.iload_n 2, 1) := by decide +kernel
theorem dX5_cutTo_59 : decode cX5_cutTo 59 = .ok (.if_icmp .ge 17, 3) := by decide +kernel
theorem dX5_cutTo_62 : decode cX5_cutTo 62 = .ok (.aload_n 0, 1) := by decide +kernel
theorem dX5_cutTo_63 : decode cX5_cutTo 63 = .ok (.getfield 29, 3) := by decide +kernel
theorem dX5_cutTo_66 : decode cX5_cutTo 66 = .ok (.iconst 0, 1) := by decide +kernel
theorem dX5_cutTo_67 : decode cX5_cutTo 67 = .ok (.invokevirtual 68, 3) := by decide +kernel
theorem dX5_cutTo_70 : decode cX5_cutTo 70 = .ok (.iinc 5 1, 3) := by decide +kernel
theorem dX5_cutTo_73 : decode cX5_cutTo 73 = .ok (.goto (-17), 3) := by decide +kernel
theorem dX5_cutTo_76 : decode cX5_cutTo 76 = .ok (.aload_n 3, 1) := by decide +kernel
theorem dX5_cutTo_77 : decode cX5_cutTo 77 = .ok (.aload_n 0, 1) := by decide +kernel
theorem dX5_cutTo_78 : decode cX5_cutTo 78 = .ok (.getfield 29, 3) := by decide +kernel
theorem dX5_cutTo_81 : decode cX5_cutTo 81 = .ok (.invokevirtual 97, 3) := by decide +kernel
theorem dX5_cutTo_84 : decode cX5_cutTo 84 = .ok (.aload_n 0, 1) := by decide +kernel
theorem dX5_cutTo_85 : decode cX5_cutTo 85 = .ok (.iload 4, 2) := by decide +kernel
theorem dX5_cutTo_87 : decode cX5_cutTo 87 = .ok (.invokevirtual 54, 3) := by decide +kernel
theorem dX5_cutTo_90 : decode cX5_cutTo 90 = .ok (.ireturn, 1) := by decide +kernel
theorem dX5_turn_0 : decode cX5_turn 0 = .ok (.aload_n 0, 1) := by decide +kernel
theorem dX5_turn_1 : decode cX5_turn 1 = .ok (.iload_n 1, 1) := by decide +kernel
theorem dX5_turn_2 : decode cX5_turn 2 = .ok (.invokevirtual 37, 3) := by decide +kernel
theorem dX5_turn_5 : decode cX5_turn 5 = .ok (.astore_n 2, 1) := by decide +kernel
theorem dX5_turn_6 : decode cX5_turn 6 = .ok (.aload_n 0, 1) := by decide +kernel
theorem dX5_turn_7 : decode cX5_turn 7 = .ok (.getfield 29, 3) := by decide +kernel
theorem dX5_turn_10 : decode cX5_turn 10 = .ok (.aload_n 2, 1) := by decide +kernel
theorem dX5_turn_11 : decode cX5_turn 11 = .ok (.invokevirtual 101, 3) := by decide +kernel
theorem dX5_turn_14 : decode cX5_turn 14 = .ok (.aload_n 0, 1) := by decide +kernel
theorem dX5_turn_15 : decode cX5_turn 15 = .ok (.aload_n 2, 1) := by decide +kernel
theorem dX5_turn_16 : decode cX5_turn 16 = .ok (.aload_n 0, 1) := by decide +kernel
theorem dX5_turn_17 : decode cX5_turn 17 = .ok (.getfield 29, 3) := by decide +kernel
theorem dX5_turn_20 : decode cX5_turn 20 = .ok (.invokevirtual 104, 3) := by decide +kernel
theorem dX5_turn_23 : decode cX5_turn 23 = .ok (.ireturn, 1) := by decide +kernel
theorem dX5_rotate_0 : decode cX5_rotate 0 = .ok (.aload_n 0, 1) := by decide +kernel
theorem dX5_rotate_1 : decode cX5_rotate 1 = .ok (.iload_n 1, 1) := by decide +kernel
theorem dX5_rotate_2 : decode cX5_rotate 2 = .ok (.invokevirtual 37, 3) := by decide +kernel
theorem dX5_rotate_5 : decode cX5_rotate 5 = .ok (.astore_n 3, 1) := by decide +kernel
theorem dX5_rotate_6 : decode cX5_rotate 6 = .ok (.iload_n 2, 1) := by decide +kernel
theorem dX5_rotate_7 : decode cX5_rotate 7 = .ok (.ifCond .lt 15, 3) := by decide +kernel
theorem dX5_rotate_10 : decode cX5_rotate 10 = .ok (.iload_n 2, 1) := by decide +kernel
theorem dX5_rotate_11 : decode cX5_rotate 11 = .ok (.aload_n 3, 1) := by decide +kernel
theorem dX5_rotate_12 : decode cX5_rotate 12 = .ok (.getfield 50, 3) := by decide +kernel
theorem dX5_rotate_15 : decode cX5_rotate 15 = .ok (.if_icmp .gt 7, 3) := by decide +kernel
theorem dX5_rotate_18 : decode cX5_rotate 18 = .ok (.iconst 1, 1) := by decide +kernel
theorem dX5_rotate_19 : decode cX5_rotate 19 = .ok (.goto 4, 3) := by decide +kernel
theorem dX5_rotate_22 : decode cX5_rotate 22 = .ok (.iconst 0, 1) := by decide +kernel
theorem dX5_rotate_23 : decode cX5_rotate 23 = .ok (.invokestatic 42, 3) := by decide +kernel
theorem dX5_rotate_26 : decode cX5_rotate 26 = .ok (.aload_n 0, 1) := by decide +kernel
theorem dX5_rotate_27 : decode cX5_rotate 27 = .ok (.getfield 29, 3) := by decide +kernel
theorem dX5_rotate_30 : decode cX5_rotate 30 = .ok (.invokevirtual 65, 3) := by decide +kernel
theorem dX5_rotate_33 : decode cX5_rotate 33 = .ok (.aload_n 0, 1) := by decide +kernel
theorem dX5_rotate_34 : decode cX5_rotate 34 = .ok (.getfield 29, 3) := by decide +kernel
theorem dX5_rotate_37 : decode cX5_rotate 37 = .ok (.aload_n 3, 1) := by decide +kernel
theorem dX5_rotate_38 : decode cX5_rotate 38 = .ok (.iload_n 2, 1) := by decide +kernel
theorem dX5_rotate_39 : decode cX5_rotate 39 = .ok (.aload_n 3, 1) := by decide +kernel
theorem dX5_rotate_40 : decode cX5_rotate 40 = .ok (.getfield 50, 3) := by decide +kernel
theorem dX5_rotate_43 : decode cX5_rotate 43 = .ok (.invokevirtual 93, 3) := by decide +kernel
theorem dX5_rotate_46 : decode cX5_rotate 46 = .ok (.aload_n 0, 1) := by decide +kernel
theorem dX5_rotate_47 : decode cX5_rotate 47 = .ok (.getfield 29, 3) := by decide +kernel
theorem dX5_rotate_50 : decode cX5_rotate 50 = .ok (.aload_n 3, 1) := by decide +kernel
theorem dX5_rotate_51 : decode cX5_rotate 51 = .ok (.iconst 0, 1) := by decide +kernel
theorem dX5_rotate_52 : decode cX5_rotate 52 = .ok (.iload_n 2, 1) := by decide +kernel
theorem dX5_rotate_53 : decode cX5_rotate 53 = .ok (.invokevirtual 93, 3) := by decide +kernel
theorem dX5_rotate_56 : decode cX5_rotate 56 = .ok (.aload_n 0, 1) := by decide +kernel
theorem dX5_rotate_57 : decode cX5_rotate 57 = .ok (.aload_n 3, 1) := by decide +kernel
theorem dX5_rotate_58 : decode cX5_rotate 58 = .ok (.aload_n 0, 1) := by decide +kernel
theorem dX5_rotate_59 : decode cX5_rotate 59 = .ok (.getfield 29, 3) := by decide +kernel
theorem dX5_rotate_62 : decode cX5_rotate 62 = .ok (.invokevirtual 104, 3) := by decide +kernel
theorem dX5_rotate_65 : decode cX5_rotate 65 = .ok (.ireturn, 1) := by decide +kernel
theorem dX5_copy_0 : decode cX5_copy 0 = .ok (.aload_n 0, 1) := by decide +kernel
theorem dX5_copy_1 : decode cX5_copy 1 = .ok (.iload_n 1, 1) := by decide +kernel
theorem dX5_copy_2 : decode cX5_copy 2 = .ok (.invokevirtual 37, 3) := by decide +kernel
theorem dX5_copy_5 : decode cX5_copy 5 = .ok (.astore_n 3, 1) := by decide +kernel
theorem dX5_copy_6 : decode cX5_copy 6 = .ok (.aload_n 0, 1) := by decide +kernel
theorem dX5_copy_7 : decode cX5_copy 7 = .ok (.aload_n 0, 1) := by decide +kernel
theorem dX5_copy_8 : decode cX5_copy 8 = .ok (.iload_n 2, 1) := by decide +kernel
theorem dX5_copy_9 : decode cX5_copy 9 = .ok (.invokevirtual 37, 3) := by decide +kernel
theorem dX5_copy_12 : decode cX5_copy 12 = .ok (.aload_n 3, 1) := by decide +kernel
theorem dX5_copy_13 : decode cX5_copy 13 = .ok (.invokevirtual 104, 3) := by decide +kernel
theorem dX5_copy_16 : decode cX5_copy 16 = .ok (.ireturn, 1) := by decide +kernel
theorem dX5_apply_0 : decode cX5_apply 0 = .ok (.aload_n 0, 1) := by decide +kernel
theorem dX5_apply_1 : decode cX5_apply 1 = .ok (.iload_n 1, 1) := by decide +kernel
theorem dX5_apply_2 : decode cX5_apply 2 = .ok (.invokevirtual 37, 3) := by decide +kernel
theorem dX5_apply_5 : decode cX5_apply 5 = .ok (.astore 4, 2) := by decide +kernel
theorem dX5_apply_7 : decode cX5_apply 7 = .ok (.aload_n 0, 1) := by decide +kernel
theorem dX5_apply_8 : decode cX5_apply 8 = .ok (.iload_n 2, 1) := by decide +kernel
theorem dX5_apply_9 : decode cX5_apply 9 = .ok (.iload_n 3, 1) := by decide +kernel
theorem dX5_apply_10 : decode cX5_apply 10 = .ok (.invokevirtual 114, 3) := by decide +kernel
theorem dX5_apply_13 : decode cX5_apply 13 = .ok (.aload_n 0, 1) := by decide +kernel
theorem dX5_apply_14 : decode cX5_apply 14 = .ok (.getfield 24, 3) := by decide +kernel
theorem dX5_apply_17 : decode cX5_apply 17 = .ok (.aload 4, 2) := by decide +kernel
theorem dX5_apply_19 : decode cX5_apply 19 = .ok (.invokevirtual 118, 3) := by decide +kernel
theorem dX5_apply_22 : decode cX5_apply 22 = .ok (.bipush 64, 2) := by decide +kernel
theorem dX5_apply_24 : decode cX5_apply 24 = .ok (.if_icmp .le 8, 3) := by decide +kernel
theorem dX5_apply_27 : decode cX5_apply 27 = .ok (.aload_n 0, 1) := by decide +kernel
theorem dX5_apply_28 : decode cX5_apply 28 = .ok (.invokevirtual 121, 3) := by decide +kernel
theorem dX5_apply_31 : decode cX5_apply 31 = .ok (.ireturn, 1) := by decide +kernel
theorem dX5_apply_32 : decode cX5_apply 32 = .ok (.aload_n 0, 1) := by decide +kernel
theorem dX5_apply_33 : decode cX5_apply 33 = .ok (.getfield 24, 3) := by decide +kernel
theorem dX5_apply_36 : decode cX5_apply 36 = .ok (.aload 4, 2) := by decide +kernel
theorem dX5_apply_38 : decode cX5_apply 38 = .ok (.aload_n 0, 1) := by decide +kernel
theorem dX5_apply_39 : decode cX5_apply 39 = .ok (.getfield 29, 3) := by decide +kernel
theorem dX5_apply_42 : decode cX5_apply 42 = .ok (.invokevirtual 125, 3) := by decide +kernel
theorem dX5_apply_45 : decode cX5_apply 45 = .ok (.aload 4, 2) := by decide +kernel
theorem dX5_apply_47 : decode cX5_apply 47 = .ok (.aload_n 0, 1) := by decide +kernel
theorem dX5_apply_48 : decode cX5_apply 48 = .ok (.getfield 29, 3) := by decide +kernel
theorem dX5_apply_51 : decode cX5_apply 51 = .ok (.invokevirtual 97, 3) := by decide +kernel
theorem dX5_apply_54 : decode cX5_apply 54 = .ok (.aload_n 0, 1) := by decide +kernel
theorem dX5_apply_55 : decode cX5_apply 55 = .ok (.aload 4, 2) := by decide +kernel
theorem dX5_apply_57 : decode cX5_apply 57 = .ok (.getfield 50, 3) := by decide +kernel
theorem dX5_apply_60 : decode cX5_apply 60 = .ok (.invokevirtual 54, 3) := by decide +kernel
theorem dX5_apply_63 : decode cX5_apply 63 = .ok (.ireturn, 1) := by decide +kernel
theorem dX5_undo_0 : decode cX5_undo 0 = .ok (.aload_n 0, 1) := by decide +kernel
theorem dX5_undo_1 : decode cX5_undo 1 = .ok (.iload_n 1, 1) := by decide +kernel
theorem dX5_undo_2 : decode cX5_undo 2 = .ok (.invokevirtual 37, 3) := by decide +kernel
theorem dX5_undo_5 : decode cX5_undo 5 = .ok (.astore 4, 2) := by decide +kernel
theorem dX5_undo_7 : decode cX5_undo 7 = .ok (.aload_n 0, 1) := by decide +kernel
theorem dX5_undo_8 : decode cX5_undo 8 = .ok (.iload_n 2, 1) := by decide +kernel
theorem dX5_undo_9 : decode cX5_undo 9 = .ok (.iload_n 3, 1) := by decide +kernel
theorem dX5_undo_10 : decode cX5_undo 10 = .ok (.invokevirtual 114, 3) := by decide +kernel
theorem dX5_undo_13 : decode cX5_undo 13 = .ok (.aload_n 0, 1) := by decide +kernel
theorem dX5_undo_14 : decode cX5_undo 14 = .ok (.getfield 24, 3) := by decide +kernel
theorem dX5_undo_17 : decode cX5_undo 17 = .ok (.invokevirtual 129, 3) := by decide +kernel
theorem dX5_undo_20 : decode cX5_undo 20 = .ok (.invokestatic 133, 3) := by decide +kernel
theorem dX5_undo_23 : decode cX5_undo 23 = .ok (.aload_n 0, 1) := by decide +kernel
theorem dX5_undo_24 : decode cX5_undo 24 = .ok (.getfield 24, 3) := by decide +kernel
theorem dX5_undo_27 : decode cX5_undo 27 = .ok (.aload 4, 2) := by decide +kernel
theorem dX5_undo_29 : decode cX5_undo 29 = .ok (.aload_n 0, 1) := by decide +kernel
theorem dX5_undo_30 : decode cX5_undo 30 = .ok (.getfield 29, 3) := by decide +kernel
theorem dX5_undo_33 : decode cX5_undo 33 = .ok (.invokevirtual 136, 3) := by decide +kernel
theorem dX5_undo_36 : decode cX5_undo 36 = .ok (.ifCond .ne 8, 3) := by decide +kernel
theorem dX5_undo_39 : decode cX5_undo 39 = .ok (.aload_n 0, 1) := by decide +kernel
theorem dX5_undo_40 : decode cX5_undo 40 = .ok (.invokevirtual 121, 3) := by decide +kernel
theorem dX5_undo_43 : decode cX5_undo 43 = .ok (.ireturn, 1) := by decide +kernel
theorem dX5_undo_44 : decode cX5_undo 44 = .ok (.aload 4, 2) := by decide +kernel
theorem dX5_undo_46 : decode cX5_undo 46 = .ok (.aload_n 0, 1) := by decide +kernel
theorem dX5_undo_47 : decode cX5_undo 47 = .ok (.getfield 29, 3) := by decide +kernel
theorem dX5_undo_50 : decode cX5_undo 50 = .ok (.invokevirtual 97, 3) := by decide +kernel
theorem dX5_undo_53 : decode cX5_undo 53 = .ok (.aload_n 0, 1) := by decide +kernel
theorem dX5_undo_54 : decode cX5_undo 54 = .ok (.aload 4, 2) := by decide +kernel
theorem dX5_undo_56 : decode cX5_undo 56 = .ok (.getfield 50, 3) := by decide +kernel
theorem dX5_undo_59 : decode cX5_undo 59 = .ok (.invokevirtual 54, 3) := by decide +kernel
theorem dX5_undo_62 : decode cX5_undo 62 = .ok (.ireturn, 1) := by decide +kernel
theorem dX5_lay_0 : decode cX5_lay 0 = .ok (.aload_n 0, 1) := by decide +kernel
theorem dX5_lay_1 : decode cX5_lay 1 = .ok (.iload_n 1, 1) := by decide +kernel
theorem dX5_lay_2 : decode cX5_lay 2 = .ok (.invokevirtual 140, 3) := by decide +kernel
theorem dX5_lay_5 : decode cX5_lay 5 = .ok (.astore 4, 2) := by decide +kernel
theorem dX5_lay_7 : decode cX5_lay 7 = .ok (.aload_n 0, 1) := by decide +kernel
theorem dX5_lay_8 : decode cX5_lay 8 = .ok (.iload_n 2, 1) := by decide +kernel
theorem dX5_lay_9 : decode cX5_lay 9 = .ok (.invokevirtual 37, 3) := by decide +kernel
theorem dX5_lay_12 : decode cX5_lay 12 = .ok (.astore 5, 2) := by decide +kernel
theorem dX5_lay_14 : decode cX5_lay 14 = .ok (.iload_n 3, 1) := by decide +kernel
theorem dX5_lay_15 : decode cX5_lay 15 = .ok (.ifCond .lt 12, 3) := by decide +kernel
theorem dX5_lay_18 : decode cX5_lay 18 = .ok (.iload_n 3, 1) := by decide +kernel
theorem dX5_lay_19 : decode cX5_lay 19 = .ok (.iconst 2, 1) := by decide +kernel
theorem dX5_lay_20 : decode cX5_lay 20 = .ok (.if_icmp .gt 7, 3) := by decide +kernel
theorem dX5_lay_23 : decode cX5_lay 23 = .ok (.iconst 1, 1) := by decide +kernel
theorem dX5_lay_24 : decode cX5_lay 24 = .ok (.goto 4, 3) := by decide +kernel
theorem dX5_lay_27 : decode cX5_lay 27 = .ok (.iconst 0, 1) := by decide +kernel
theorem dX5_lay_28 : decode cX5_lay 28 = .ok (.invokestatic 42, 3) := by decide +kernel
theorem dX5_lay_31 : decode cX5_lay 31 = .ok (.iload_n 3, 1) := by decide +kernel
theorem dX5_lay_32 : decode cX5_lay 32 = .ok (.ifCond .ne 16, 3) := by decide +kernel
theorem dX5_lay_35 : decode cX5_lay 35 = .ok (.aload 5, 2) := by decide +kernel
theorem dX5_lay_37 : decode cX5_lay 37 = .ok (.aload 4, 2) := by decide +kernel
theorem dX5_lay_39 : decode cX5_lay 39 = .ok (.getfield 144, 3) := by decide +kernel
theorem dX5_lay_42 : decode cX5_lay 42 = .ok (.invokevirtual 97, 3) := by decide +kernel
theorem dX5_lay_45 : decode cX5_lay 45 = .ok (.goto 33, 3) := by decide +kernel
theorem dX5_lay_48 : decode cX5_lay 48 = .ok (.iload_n 3, 1) := by decide +kernel
theorem dX5_lay_49 : decode cX5_lay 49 = .ok (.iconst 1, 1) := by decide +kernel
theorem dX5_lay_50 : decode cX5_lay 50 = .ok (.if_icmp .ne 21, 3) := by decide +kernel
theorem dX5_lay_53 : decode cX5_lay 53 = .ok (.aload 4, 2) := by decide +kernel
theorem dX5_lay_55 : decode cX5_lay 55 = .ok (.aload 5, 2) := by decide +kernel
theorem dX5_lay_57 : decode cX5_lay 57 = .ok (.aload_n 0, 1) := by decide +kernel
theorem dX5_lay_58 : decode cX5_lay 58 = .ok (.getfield 29, 3) := by decide +kernel
theorem dX5_lay_61 : decode cX5_lay 61 = .ok (.aload_n 0, 1) := by decide +kernel
theorem dX5_lay_62 : decode cX5_lay 62 = .ok (.getfield 24, 3) := by decide +kernel
theorem dX5_lay_65 : decode cX5_lay 65 = .ok (.invokevirtual 147, 3) := by decide +kernel
theorem dX5_lay_68 : decode cX5_lay 68 = .ok (.goto 10, 3) := by decide +kernel
theorem dX5_lay_71 : decode cX5_lay 71 = .ok (.aload 4, 2) := by decide +kernel
theorem dX5_lay_73 : decode cX5_lay 73 = .ok (.aload 5, 2) := by decide +kernel
theorem dX5_lay_75 : decode cX5_lay 75 = .ok (.invokevirtual 151, 3) := by decide +kernel
theorem dX5_lay_78 : decode cX5_lay 78 = .ok (.aload_n 0, 1) := by decide +kernel
theorem dX5_lay_79 : decode cX5_lay 79 = .ok (.aload 5, 2) := by decide +kernel
theorem dX5_lay_81 : decode cX5_lay 81 = .ok (.getfield 50, 3) := by decide +kernel
theorem dX5_lay_84 : decode cX5_lay 84 = .ok (.invokevirtual 54, 3) := by decide +kernel
theorem dX5_lay_87 : decode cX5_lay 87 = .ok (.ireturn, 1) := by decide +kernel
theorem dX5_line_0 : decode cX5_line 0 = .ok (.aload_n 0, 1) := by decide +kernel
theorem dX5_line_1 : decode cX5_line 1 = .ok (.iload_n 1, 1) := by decide +kernel
theorem dX5_line_2 : decode cX5_line 2 = .ok (.invokevirtual 37, 3) := by decide +kernel
theorem dX5_line_5 : decode cX5_line 5 = .ok (.astore 5, 2) := by decide +kernel
theorem dX5_line_7 : decode cX5_line 7 = .ok (.iload_n 2, 1) := by decide +kernel
theorem dX5_line_8 : decode cX5_line 8 = .ok (.iconst 1, 1) := by decide +kernel
theorem dX5_line_9 : decode cX5_line 9 = .ok (.if_icmp .lt 13, 3) := by decide +kernel
theorem dX5_line_12 : decode cX5_line 12 = .ok (.iload_n 2, 1) := by decide +kernel
theorem dX5_line_13 : decode cX5_line 13 = .ok (.bipush 64, 2) := by decide +kernel
theorem dX5_line_15 : decode cX5_line 15 = .ok (.if_icmp .gt 7, 3) := by decide +kernel
theorem dX5_line_18 : decode cX5_line 18 = .ok (.iconst 1, 1) := by decide +kernel
theorem dX5_line_19 : decode cX5_line 19 = .ok (.goto 4, 3) := by decide +kernel
theorem dX5_line_22 : decode cX5_line 22 = .ok (.iconst 0, 1) := by decide +kernel
theorem dX5_line_23 : decode cX5_line 23 = .ok (.invokestatic 42, 3) := by decide +kernel
theorem dX5_line_26 : decode cX5_line 26 = .ok (.iload_n 3, 1) := by decide +kernel
theorem dX5_line_27 : decode cX5_line 27 = .ok (.ifCond .lt 12, 3) := by decide +kernel
theorem dX5_line_30 : decode cX5_line 30 = .ok (.iload_n 3, 1) := by decide +kernel
theorem dX5_line_31 : decode cX5_line 31 = .ok (.iload_n 2, 1) := by decide +kernel
theorem dX5_line_32 : decode cX5_line 32 = .ok (.if_icmp .gt 7, 3) := by decide +kernel
theorem dX5_line_35 : decode cX5_line 35 = .ok (.iconst 1, 1) := by decide +kernel
theorem dX5_line_36 : decode cX5_line 36 = .ok (.goto 4, 3) := by decide +kernel
theorem dX5_line_39 : decode cX5_line 39 = .ok (.iconst 0, 1) := by decide +kernel
theorem dX5_line_40 : decode cX5_line 40 = .ok (.invokestatic 42, 3) := by decide +kernel
theorem dX5_line_43 : decode cX5_line 43 = .ok (.iload 4, 2) := by decide +kernel
theorem dX5_line_45 : decode cX5_line 45 = .ok (.ifCond .lt 13, 3) := by decide +kernel
theorem dX5_line_48 : decode cX5_line 48 = .ok (.iload 4, 2) := by decide +kernel
theorem dX5_line_50 : decode cX5_line 50 = .ok (.iload_n 2, 1) := by decide +kernel
theorem dX5_line_51 : decode cX5_line 51 = .ok (.if_icmp .ge 7, 3) := by decide +kernel
theorem dX5_line_54 : decode cX5_line 54 = .ok (.iconst 1, 1) := by decide +kernel
theorem dX5_line_55 : decode cX5_line 55 = .ok (.goto 4, 3) := by decide +kernel
theorem dX5_line_58 : decode cX5_line 58 = .ok (.iconst 0, 1) := by decide +kernel
theorem dX5_line_59 : decode cX5_line 59 = .ok (.invokestatic 42, 3) := by decide +kernel
theorem dX5_line_62 : decode cX5_line 62 = .ok (.aload_n 0, 1) := by decide +kernel
theorem dX5_line_63 : decode cX5_line 63 = .ok (.getfield 29, 3) := by decide +kernel
theorem dX5_line_66 : decode cX5_line 66 = .ok (.invokevirtual 65, 3) := by decide +kernel
theorem dX5_line_69 : decode cX5_line 69 = .ok (.iconst 0, 1) := by decide +kernel
theorem dX5_line_70 : decode cX5_line 70 = .ok (.istore 6, 2) := by decide +kernel
theorem dX5_line_72 : decode cX5_line 72 = .ok (.iload 6, 2) := by decide +kernel
theorem dX5_line_74 : decode cX5_line 74 = .ok (.iload_n 2, 1) := by decide +kernel
theorem dX5_line_75 : decode cX5_line 75 = .ok (.if_icmp .ge 25, 3) := by decide +kernel
theorem dX5_line_78 : decode cX5_line 78 = .ok (.aload_n 0, 1) := by decide +kernel
theorem dX5_line_79 : decode cX5_line 79 = .ok (.getfield 29, 3) := by decide +kernel
theorem dX5_line_82 : decode cX5_line 82 = .ok (.iload_n 2, 1) := by decide +kernel
theorem dX5_line_83 : decode cX5_line 83 = .ok (.iload_n 3, 1) := by decide +kernel
theorem dX5_line_84 : decode cX5_line 84 = .ok (.iload 4, 2) := by decide +kernel
theorem dX5_line_86 : decode cX5_line 86 = .ok (.iload 6, 2) := by decide +kernel
theorem dX5_line_88 : decode cX5_line 88 = .ok (.invokestatic 167, 3) := by decide +kernel
theorem dX5_line_91 : decode cX5_line 91 = .ok (.invokevirtual 68, 3) := by decide +kernel
theorem dX5_line_94 : decode cX5_line 94 = .ok (.iinc 6 1, 3) := by decide +kernel
theorem dX5_line_97 : decode cX5_line 97 = .ok (.goto (-25), 3) := by decide +kernel
theorem dX5_line_100 : decode cX5_line 100 = .ok (.aload_n 0, 1) := by decide +kernel
theorem dX5_line_101 : decode cX5_line 101 = .ok (.aload 5, 2) := by decide +kernel
theorem dX5_line_103 : decode cX5_line 103 = .ok (.aload_n 0, 1) := by decide +kernel
theorem dX5_line_104 : decode cX5_line 104 = .ok (.getfield 29, 3) := by decide +kernel
theorem dX5_line_107 : decode cX5_line 107 = .ok (.invokevirtual 104, 3) := by decide +kernel
theorem dX5_line_110 : decode cX5_line 110 = .ok (.ireturn, 1) := by decide +kernel
theorem dX5_grow_0 : decode cX5_grow 0 = .ok (.aload_n 0, 1) := by decide +kernel
theorem dX5_grow_1 : decode cX5_grow 1 = .ok (.iload_n 1, 1) := by decide +kernel
theorem dX5_grow_2 : decode cX5_grow 2 = .ok (.invokevirtual 140, 3) := by decide +kernel
theorem dX5_grow_5 : decode cX5_grow 5 = .ok (.astore_n 3, 1) := by decide +kernel
theorem dX5_grow_6 : decode cX5_grow 6 = .ok (.iload_n 2, 1) := by decide +kernel
theorem dX5_grow_7 : decode cX5_grow 7 = .ok (.iconst 1, 1) := by decide +kernel
theorem dX5_grow_8 : decode cX5_grow 8 = .ok (.if_icmp .lt 12, 3) := by decide +kernel
theorem dX5_grow_11 : decode cX5_grow 11 = .ok (.iload_n 2, 1) := by decide +kernel
theorem dX5_grow_12 : decode cX5_grow 12 = .ok (.iconst 3, 1) := by decide +kernel
theorem dX5_grow_13 : decode cX5_grow 13 = .ok (.if_icmp .gt 7, 3) := by decide +kernel
theorem dX5_grow_16 : decode cX5_grow 16 = .ok (.iconst 1, 1) := by decide +kernel
theorem dX5_grow_17 : decode cX5_grow 17 = .ok (.goto 4, 3) := by decide +kernel
theorem dX5_grow_20 : decode cX5_grow 20 = .ok (.iconst 0, 1) := by decide +kernel
theorem dX5_grow_21 : decode cX5_grow 21 = .ok (.invokestatic 42, 3) := by decide +kernel
theorem dX5_grow_24 : decode cX5_grow 24 = .ok (.aload_n 3, 1) := by decide +kernel
theorem dX5_grow_25 : decode cX5_grow 25 = .ok (.iload_n 2, 1) := by decide +kernel
theorem dX5_grow_26 : decode cX5_grow 26 = .ok (.aload_n 0, 1) := by decide +kernel
theorem dX5_grow_27 : decode cX5_grow 27 = .ok (.getfield 29, 3) := by decide +kernel
theorem dX5_grow_30 : decode cX5_grow 30 = .ok (.invokevirtual 171, 3) := by decide +kernel
theorem dX5_grow_33 : decode cX5_grow 33 = .ok (.ifCond .ne 8, 3) := by decide +kernel
theorem dX5_grow_36 : decode cX5_grow 36 = .ok (.aload_n 0, 1) := by decide +kernel
theorem dX5_grow_37 : decode cX5_grow 37 = .ok (.invokevirtual 121, 3) := by decide +kernel
theorem dX5_grow_40 : decode cX5_grow 40 = .ok (.ireturn, 1) := by decide +kernel
theorem dX5_grow_41 : decode cX5_grow 41 = .ok (.aload_n 0, 1) := by decide +kernel
theorem dX5_grow_42 : decode cX5_grow 42 = .ok (.aload_n 3, 1) := by decide +kernel
theorem dX5_grow_43 : decode cX5_grow 43 = .ok (.getfield 144, 3) := by decide +kernel
theorem dX5_grow_46 : decode cX5_grow 46 = .ok (.getfield 50, 3) := by decide +kernel
theorem dX5_grow_49 : decode cX5_grow 49 = .ok (.invokevirtual 175, 3) := by decide +kernel
theorem dX5_grow_52 : decode cX5_grow 52 = .ok (.ireturn, 1) := by decide +kernel
theorem dX5_fresh_0 : decode cX5_fresh 0 = .ok (.aload_n 0, 1) := by decide +kernel
theorem dX5_fresh_1 : decode cX5_fresh 1 = .ok (.iload_n 1, 1) := by decide +kernel
theorem dX5_fresh_2 : decode cX5_fresh 2 = .ok (.invokevirtual 140, 3) := by decide +kernel
theorem dX5_fresh_5 : decode cX5_fresh 5 = .ok (.astore_n 2, 1) := by decide +kernel
theorem dX5_fresh_6 : decode cX5_fresh 6 = .ok (.aload_n 2, 1) := by decide +kernel
theorem dX5_fresh_7 : decode cX5_fresh 7 = .ok (.getfield 178, 3) := by decide +kernel
theorem dX5_fresh_10 : decode cX5_fresh 10 = .ok (.istore_n 3, 1) := by decide +kernel
theorem dX5_fresh_11 : decode cX5_fresh 11 = .ok (.aload_n 2, 1) := by decide +kernel
theorem dX5_fresh_12 : decode cX5_fresh 12 = .ok (.invokevirtual 184, 3) := by decide +kernel
theorem dX5_fresh_15 : decode cX5_fresh 15 = .ok (.aload_n 0, 1) := by decide +kernel
theorem dX5_fresh_16 : decode cX5_fresh 16 = .ok (.iload_n 3, 1) := by decide +kernel
theorem dX5_fresh_17 : decode cX5_fresh 17 = .ok (.invokevirtual 175, 3) := by decide +kernel
theorem dX5_fresh_20 : decode cX5_fresh 20 = .ok (.ireturn, 1) := by decide +kernel
theorem dX5_length_0 : decode cX5_length 0 = .ok (.aload_n 0, 1) := by decide +kernel
theorem dX5_length_1 : decode cX5_length 1 = .ok (.iload_n 1, 1) := by decide +kernel
theorem dX5_length_2 : decode cX5_length 2 = .ok (.invokevirtual 37, 3) := by decide +kernel
theorem dX5_length_5 : decode cX5_length 5 = .ok (.getfield 50, 3) := by decide +kernel
