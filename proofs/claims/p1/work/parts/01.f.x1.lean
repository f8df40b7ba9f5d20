def lkcX0_init_0 : List UInt8 := [0x2a, 0xb7, 0x00, 0x03, 0x2a, 0x10, 0x40, 0xbc, 0x0a, 0xb5, 0x00, 0x09, 0x2a, 0xbb, 0x00, 0x0f, 0x59, 0xb7, 0x00, 0x11, 0xb5, 0x00, 0x12, 0x2a, 0xbb, 0x00, 0x0f, 0x59, 0xb7, 0x00, 0x11, 0xb5, 0x00, 0x16, 0x2a, 0xb6, 0x00, 0x19, 0xb1]
def tkcX0_init_0 : List UInt8 := lkcX0_init_0 ++ []
theorem drcX0_init_0 : (cX0_init).data.toList.drop 0 = lkcX0_init_0 ++ [] := by decide +kernel
theorem dX0_init_0 : decode cX0_init 0 = .ok (.aload_n 0, 1) := dec_42 (gB drcX0_init_0 0 rfl rfl)
theorem dX0_init_1 : decode cX0_init 1 = .ok (.invokespecial 3, 3) := e_183 (x := 0) (y := 3) drcX0_init_0 1 rfl rfl
theorem dX0_init_4 : decode cX0_init 4 = .ok (.aload_n 0, 1) := dec_42 (gB drcX0_init_0 4 rfl rfl)
theorem dX0_init_5 : decode cX0_init 5 = .ok (.bipush 64, 2) := e_16 (x := 64) drcX0_init_0 5 rfl rfl
theorem dX0_init_7 : decode cX0_init 7 = .ok (.newarray .int, 2) := by decide +kernel
theorem dX0_init_9 : decode cX0_init 9 = .ok (.putfield 9, 3) := e_181 (x := 0) (y := 9) drcX0_init_0 9 rfl rfl
theorem dX0_init_12 : decode cX0_init 12 = .ok (.aload_n 0, 1) := dec_42 (gB drcX0_init_0 12 rfl rfl)
theorem dX0_init_13 : decode cX0_init 13 = .ok (.new 15, 3) := e_187 (x := 0) (y := 15) drcX0_init_0 13 rfl rfl
theorem dX0_init_16 : decode cX0_init 16 = .ok (.dup, 1) := dec_89 (gB drcX0_init_0 16 rfl rfl)
theorem dX0_init_17 : decode cX0_init 17 = .ok (.invokespecial 17, 3) := e_183 (x := 0) (y := 17) drcX0_init_0 17 rfl rfl
theorem dX0_init_20 : decode cX0_init 20 = .ok (.putfield 18, 3) := e_181 (x := 0) (y := 18) drcX0_init_0 20 rfl rfl
theorem dX0_init_23 : decode cX0_init 23 = .ok (.aload_n 0, 1) := dec_42 (gB drcX0_init_0 23 rfl rfl)
theorem dX0_init_24 : decode cX0_init 24 = .ok (.new 15, 3) := e_187 (x := 0) (y := 15) drcX0_init_0 24 rfl rfl
theorem dX0_init_27 : decode cX0_init 27 = .ok (.dup, 1) := dec_89 (gB drcX0_init_0 27 rfl rfl)
theorem dX0_init_28 : decode cX0_init 28 = .ok (.invokespecial 17, 3) := e_183 (x := 0) (y := 17) drcX0_init_0 28 rfl rfl
theorem dX0_init_31 : decode cX0_init 31 = .ok (.putfield 22, 3) := e_181 (x := 0) (y := 22) drcX0_init_0 31 rfl rfl
theorem dX0_init_34 : decode cX0_init 34 = .ok (.aload_n 0, 1) := dec_42 (gB drcX0_init_0 34 rfl rfl)
theorem dX0_init_35 : decode cX0_init 35 = .ok (.invokevirtual 25, 3) := e_182 (x := 0) (y := 25) drcX0_init_0 35 rfl rfl
theorem dX0_init_38 : decode cX0_init 38 = .ok (.return_, 1) := dec_177 (gB drcX0_init_0 38 rfl rfl)
def lkcX0_begin_0 : List UInt8 := [0x2a, 0x03, 0xb5, 0x00, 0x1c, 0x2a, 0xb4, 0x00, 0x12, 0xb6, 0x00, 0x20, 0x2a, 0xb4, 0x00, 0x12, 0x04, 0xb6, 0x00, 0x23, 0x2a, 0xb4, 0x00, 0x16, 0xb6, 0x00, 0x20, 0x2a, 0xb4, 0x00, 0x16, 0x03, 0xb6, 0x00, 0x23, 0xb1]
def tkcX0_begin_0 : List UInt8 := lkcX0_begin_0 ++ []
theorem drcX0_begin_0 : (cX0_begin).data.toList.drop 0 = lkcX0_begin_0 ++ [] := by decide +kernel
theorem dX0_begin_0 : decode cX0_begin 0 = .ok (.aload_n 0, 1) := dec_42 (gB drcX0_begin_0 0 rfl rfl)
theorem dX0_begin_1 : decode cX0_begin 1 = .ok (.iconst 0, 1) := dec_3 (gB drcX0_begin_0 1 rfl rfl)
theorem dX0_begin_2 : decode cX0_begin 2 = .ok (.putfield 28, 3) := e_181 (x := 0) (y := 28) drcX0_begin_0 2 rfl rfl
theorem dX0_begin_5 : decode cX0_begin 5 = .ok (.aload_n 0, 1) := dec_42 (gB drcX0_begin_0 5 rfl rfl)
theorem dX0_begin_6 : decode cX0_begin 6 = .ok (.getfield 18, 3) := e_180 (x := 0) (y := 18) drcX0_begin_0 6 rfl rfl
theorem dX0_begin_9 : decode cX0_begin 9 = .ok (.invokevirtual 32, 3) := e_182 (x := 0) (y := 32) drcX0_begin_0 9 rfl rfl
theorem dX0_begin_12 : decode cX0_begin 12 = .ok (.aload_n 0, 1) := dec_42 (gB drcX0_begin_0 12 rfl rfl)
theorem dX0_begin_13 : decode cX0_begin 13 = .ok (.getfield 18, 3) := e_180 (x := 0) (y := 18) drcX0_begin_0 13 rfl rfl
theorem dX0_begin_16 : decode cX0_begin 16 = .ok (.iconst 1, 1) := dec_4 (gB drcX0_begin_0 16 rfl rfl)
theorem dX0_begin_17 : decode cX0_begin 17 = .ok (.invokevirtual 35, 3) := e_182 (x := 0) (y := 35) drcX0_begin_0 17 rfl rfl
theorem dX0_begin_20 : decode cX0_begin 20 = .ok (.aload_n 0, 1) := dec_42 (gB drcX0_begin_0 20 rfl rfl)
theorem dX0_begin_21 : decode cX0_begin 21 = .ok (.getfield 22, 3) := e_180 (x := 0) (y := 22) drcX0_begin_0 21 rfl rfl
theorem dX0_begin_24 : decode cX0_begin 24 = .ok (.invokevirtual 32, 3) := e_182 (x := 0) (y := 32) drcX0_begin_0 24 rfl rfl
theorem dX0_begin_27 : decode cX0_begin 27 = .ok (.aload_n 0, 1) := dec_42 (gB drcX0_begin_0 27 rfl rfl)
theorem dX0_begin_28 : decode cX0_begin 28 = .ok (.getfield 22, 3) := e_180 (x := 0) (y := 22) drcX0_begin_0 28 rfl rfl
theorem dX0_begin_31 : decode cX0_begin 31 = .ok (.iconst 0, 1) := dec_3 (gB drcX0_begin_0 31 rfl rfl)
theorem dX0_begin_32 : decode cX0_begin 32 = .ok (.invokevirtual 35, 3) := e_182 (x := 0) (y := 35) drcX0_begin_0 32 rfl rfl
theorem dX0_begin_35 : decode cX0_begin 35 = .ok (.return_, 1) := dec_177 (gB drcX0_begin_0 35 rfl rfl)
def lkcX0_wordBy_0 : List UInt8 := [0x1b, 0x99, 0x00, 0x0a, 0x2a, 0xb4, 0x00, 0x12, 0xa7, 0x00, 0x07, 0x2a, 0xb4, 0x00, 0x16, 0xb0]
def tkcX0_wordBy_0 : List UInt8 := lkcX0_wordBy_0 ++ []
theorem drcX0_wordBy_0 : (cX0_wordBy).data.toList.drop 0 = lkcX0_wordBy_0 ++ [] := by decide +kernel
theorem dX0_wordBy_0 : decode cX0_wordBy 0 = .ok (.iload_n 1, 1) := dec_27 (gB drcX0_wordBy_0 0 rfl rfl)
theorem dX0_wordBy_1 : decode cX0_wordBy 1 = .ok (.ifCond .eq 10, 3) := e_153 (x := 0) (y := 10) drcX0_wordBy_0 1 rfl rfl
theorem dX0_wordBy_4 : decode cX0_wordBy 4 = .ok (.aload_n 0, 1) := dec_42 (gB drcX0_wordBy_0 4 rfl rfl)
theorem dX0_wordBy_5 : decode cX0_wordBy 5 = .ok (.getfield 18, 3) := e_180 (x := 0) (y := 18) drcX0_wordBy_0 5 rfl rfl
theorem dX0_wordBy_8 : decode cX0_wordBy 8 = .ok (.goto 7, 3) := e_167 (x := 0) (y := 7) drcX0_wordBy_0 8 rfl rfl
theorem dX0_wordBy_11 : decode cX0_wordBy 11 = .ok (.aload_n 0, 1) := dec_42 (gB drcX0_wordBy_0 11 rfl rfl)
theorem dX0_wordBy_12 : decode cX0_wordBy 12 = .ok (.getfield 22, 3) := e_180 (x := 0) (y := 22) drcX0_wordBy_0 12 rfl rfl
theorem dX0_wordBy_15 : decode cX0_wordBy 15 = .ok (.areturn, 1) := dec_176 (gB drcX0_wordBy_0 15 rfl rfl)
def lkcX0_turnAt_0 : List UInt8 := [0x1b, 0x9b, 0x00, 0x15, 0x1b, 0x2a, 0xb4, 0x00, 0x09, 0xbe, 0xa2, 0x00, 0x0c, 0x2a, 0xb4, 0x00, 0x09, 0x1b, 0x2e, 0xa7, 0x00, 0x04, 0x03, 0xac]
def tkcX0_turnAt_0 : List UInt8 := lkcX0_turnAt_0 ++ []
theorem drcX0_turnAt_0 : (cX0_turnAt).data.toList.drop 0 = lkcX0_turnAt_0 ++ [] := by decide +kernel
theorem dX0_turnAt_0 : decode cX0_turnAt 0 = .ok (.iload_n 1, 1) := dec_27 (gB drcX0_turnAt_0 0 rfl rfl)
theorem dX0_turnAt_1 : decode cX0_turnAt 1 = .ok (.ifCond .lt 21, 3) := e_155 (x := 0) (y := 21) drcX0_turnAt_0 1 rfl rfl
theorem dX0_turnAt_4 : decode cX0_turnAt 4 = .ok (.iload_n 1, 1) := dec_27 (gB drcX0_turnAt_0 4 rfl rfl)
theorem dX0_turnAt_5 : decode cX0_turnAt 5 = .ok (.aload_n 0, 1) := dec_42 (gB drcX0_turnAt_0 5 rfl rfl)
theorem dX0_turnAt_6 : decode cX0_turnAt 6 = .ok (.getfield 9, 3) := e_180 (x := 0) (y := 9) drcX0_turnAt_0 6 rfl rfl
theorem dX0_turnAt_9 : decode cX0_turnAt 9 = .ok (.arraylength, 1) := dec_190 (gB drcX0_turnAt_0 9 rfl rfl)
theorem dX0_turnAt_10 : decode cX0_turnAt 10 = .ok (.if_icmp .ge 12, 3) := e_162 (x := 0) (y := 12) drcX0_turnAt_0 10 rfl rfl
theorem dX0_turnAt_13 : decode cX0_turnAt 13 = .ok (.aload_n 0, 1) := dec_42 (gB drcX0_turnAt_0 13 rfl rfl)
theorem dX0_turnAt_14 : decode cX0_turnAt 14 = .ok (.getfield 9, 3) := e_180 (x := 0) (y := 9) drcX0_turnAt_0 14 rfl rfl
theorem dX0_turnAt_17 : decode cX0_turnAt 17 = .ok (.iload_n 1, 1) := dec_27 (gB drcX0_turnAt_0 17 rfl rfl)
theorem dX0_turnAt_18 : decode cX0_turnAt 18 = .ok (.iaload, 1) := dec_46 (gB drcX0_turnAt_0 18 rfl rfl)
theorem dX0_turnAt_19 : decode cX0_turnAt 19 = .ok (.goto 4, 3) := e_167 (x := 0) (y := 4) drcX0_turnAt_0 19 rfl rfl
theorem dX0_turnAt_22 : decode cX0_turnAt 22 = .ok (.iconst 0, 1) := dec_3 (gB drcX0_turnAt_0 22 rfl rfl)
theorem dX0_turnAt_23 : decode cX0_turnAt 23 = .ok (.ireturn, 1) := dec_172 (gB drcX0_turnAt_0 23 rfl rfl)
def lkcX0_goOn_0 : List UInt8 := [0x2a, 0xb4, 0x00, 0x1c, 0x9b, 0x00, 0x13, 0x2a, 0xb4, 0x00, 0x1c, 0x2a, 0xb4, 0x00, 0x09, 0xbe, 0xa2, 0x00, 0x07, 0x04, 0xa7, 0x00, 0x04, 0x03, 0x3e, 0x1d, 0x99, 0x00, 0x19, 0x1b, 0x2a, 0xb4, 0x00, 0x16, 0xb4, 0x00, 0x27, 0x68, 0x2a, 0xb4, 0x00, 0x12, 0xb4, 0x00, 0x27, 0x60, 0x10, 0x40, 0xa4, 0x00, 0x05, 0x03, 0xac, 0x2c, 0xb6, 0x00, 0x20, 0x03, 0x36, 0x04, 0x15, 0x04, 0x1b, 0xa2]
def lkcX0_goOn_1 : List UInt8 := [0x00, 0x19, 0x2c, 0x2a, 0xb4, 0x00, 0x16, 0x03, 0x2a, 0xb4, 0x00, 0x16, 0xb4, 0x00, 0x27, 0xb6, 0x00, 0x2a, 0x84, 0x04, 0x01, 0xa7, 0xff, 0xe7, 0x2c, 0x2a, 0xb4, 0x00, 0x12, 0x03, 0x2a, 0xb4, 0x00, 0x12, 0xb4, 0x00, 0x27, 0xb6, 0x00, 0x2a, 0x2a, 0xb4, 0x00, 0x12, 0x2a, 0xb4, 0x00, 0x16, 0xb6, 0x00, 0x2e, 0x2a, 0xb4, 0x00, 0x16, 0x2c, 0xb6, 0x00, 0x2e, 0x2a, 0xb4, 0x00, 0x09, 0x2a]
def lkcX0_goOn_2 : List UInt8 := [0xb4, 0x00, 0x1c, 0x1b, 0x4f, 0x2a, 0x59, 0xb4, 0x00, 0x1c, 0x04, 0x60, 0xb5, 0x00, 0x1c, 0x04, 0xac]
def tkcX0_goOn_2 : List UInt8 := lkcX0_goOn_2 ++ []
def tkcX0_goOn_1 : List UInt8 := lkcX0_goOn_1 ++ tkcX0_goOn_2
def tkcX0_goOn_0 : List UInt8 := lkcX0_goOn_0 ++ tkcX0_goOn_1
theorem drcX0_goOn_0 : (cX0_goOn).data.toList.drop 0 = lkcX0_goOn_0 ++ tkcX0_goOn_1 := by decide +kernel
theorem drcX0_goOn_1 : (cX0_goOn).data.toList.drop 64 = lkcX0_goOn_1 ++ tkcX0_goOn_2 := dr_step drcX0_goOn_0 rfl
theorem drcX0_goOn_2 : (cX0_goOn).data.toList.drop 128 = lkcX0_goOn_2 ++ [] := dr_step drcX0_goOn_1 rfl
theorem dX0_goOn_0 : decode cX0_goOn 0 = .ok (.aload_n 0, 1) := dec_42 (gB drcX0_goOn_0 0 rfl rfl)
theorem dX0_goOn_1 : decode cX0_goOn 1 = .ok (.getfield 28, 3) := e_180 (x := 0) (y := 28) drcX0_goOn_0 1 rfl rfl
theorem dX0_goOn_4 : decode cX0_goOn 4 = .ok (.ifCond .lt 19, 3) := e_155 (x := 0) (y := 19) drcX0_goOn_0 4 rfl rfl
theorem dX0_goOn_7 : decode cX0_goOn 7 = .ok (.aload_n 0, 1) := dec_42 (gB drcX0_goOn_0 7 rfl rfl)
theorem dX0_goOn_8 : decode cX0_goOn 8 = .ok (.getfield 28, 3) := e_180 (x := 0) (y := 28) drcX0_goOn_0 8 rfl rfl
theorem dX0_goOn_11 : decode cX0_goOn 11 = .ok (.aload_n 0, 1) := dec_42 (gB drcX0_goOn_0 11 rfl rfl)
theorem dX0_goOn_12 : decode cX0_goOn 12 = .ok (.getfield 9, 3) := e_180 (x := 0) (y := 9) drcX0_goOn_0 12 rfl rfl
theorem dX0_goOn_15 : decode cX0_goOn 15 = .ok (.arraylength, 1) := dec_190 (gB drcX0_goOn_0 15 rfl rfl)
theorem dX0_goOn_16 : decode cX0_goOn 16 = .ok (.if_icmp .ge 7, 3) := e_162 (x := 0) (y := 7) drcX0_goOn_0 16 rfl rfl
theorem dX0_goOn_19 : decode cX0_goOn 19 = .ok (.iconst 1, 1) := dec_4 (gB drcX0_goOn_0 19 rfl rfl)
theorem dX0_goOn_20 : decode cX0_goOn 20 = .ok (.goto 4, 3) := e_167 (x := 0) (y := 4) drcX0_goOn_0 20 rfl rfl
theorem dX0_goOn_23 : decode cX0_goOn 23 = .ok (.iconst 0, 1) := dec_3 (gB drcX0_goOn_0 23 rfl rfl)
theorem dX0_goOn_24 : decode cX0_goOn 24 = .ok (.istore_n 3, 1) := dec_62 (gB drcX0_goOn_0 24 rfl rfl)
theorem dX0_goOn_25 : decode cX0_goOn 25 = .ok (.iload_n 3, 1) := dec_29 (gB drcX0_goOn_0 25 rfl rfl)
theorem dX0_goOn_26 : decode cX0_goOn 26 = .ok (.ifCond .eq 25, 3) := e_153 (x := 0) (y := 25) drcX0_goOn_0 26 rfl rfl
theorem dX0_goOn_29 : decode cX0_goOn 29 = .ok (.iload_n 1, 1) := dec_27 (gB drcX0_goOn_0 29 rfl rfl)
theorem dX0_goOn_30 : decode cX0_goOn 30 = .ok (.aload_n 0, 1) := dec_42 (gB drcX0_goOn_0 30 rfl rfl)
theorem dX0_goOn_31 : decode cX0_goOn 31 = .ok (.getfield 22, 3) := e_180 (x := 0) (y := 22) drcX0_goOn_0 31 rfl rfl
theorem dX0_goOn_34 : decode cX0_goOn 34 = .ok (.getfield 39, 3) := e_180 (x := 0) (y := 39) drcX0_goOn_0 34 rfl rfl
theorem dX0_goOn_37 : decode cX0_goOn 37 = .ok (.imul, 1) := dec_104 (gB drcX0_goOn_0 37 rfl rfl)
theorem dX0_goOn_38 : decode cX0_goOn 38 = .ok (.aload_n 0, 1) := dec_42 (gB drcX0_goOn_0 38 rfl rfl)
theorem dX0_goOn_39 : decode cX0_goOn 39 = .ok (.getfield 18, 3) := e_180 (x := 0) (y := 18) drcX0_goOn_0 39 rfl rfl
theorem dX0_goOn_42 : decode cX0_goOn 42 = .ok (.getfield 39, 3) := e_180 (x := 0) (y := 39) drcX0_goOn_0 42 rfl rfl
theorem dX0_goOn_45 : decode cX0_goOn 45 = .ok (.iadd, 1) := dec_96 (gB drcX0_goOn_0 45 rfl rfl)
theorem dX0_goOn_46 : decode cX0_goOn 46 = .ok (.bipush 64, 2) := e_16 (x := 64) drcX0_goOn_0 46 rfl rfl
theorem dX0_goOn_48 : decode cX0_goOn 48 = .ok (.if_icmp .le 5, 3) := e_164 (x := 0) (y := 5) drcX0_goOn_0 48 rfl rfl
theorem dX0_goOn_51 : decode cX0_goOn 51 = .ok (.iconst 0, 1) := dec_3 (gB drcX0_goOn_0 51 rfl rfl)
theorem dX0_goOn_52 : decode cX0_goOn 52 = .ok (.ireturn, 1) := dec_172 (gB drcX0_goOn_0 52 rfl rfl)
theorem dX0_goOn_53 : decode cX0_goOn 53 = .ok (.aload_n 2, 1) := dec_44 (gB drcX0_goOn_0 53 rfl rfl)
theorem dX0_goOn_54 : decode cX0_goOn 54 = .ok (.invokevirtual 32, 3) := e_182 (x := 0) (y := 32) drcX0_goOn_0 54 rfl rfl
theorem dX0_goOn_57 : decode cX0_goOn 57 = .ok (.iconst 0, 1) := dec_3 (gB drcX0_goOn_0 57 rfl rfl)
theorem dX0_goOn_58 : decode cX0_goOn 58 = .ok (.istore 4, 2) := e_54 (x := 4) drcX0_goOn_0 58 rfl rfl
theorem dX0_goOn_60 : decode cX0_goOn 60 = .ok (.iload 4, 2) := e_21 (x := 4) drcX0_goOn_0 60 rfl rfl
theorem dX0_goOn_62 : decode cX0_goOn 62 = .ok (.iload_n 1, 1) := dec_27 (gB drcX0_goOn_0 62 rfl rfl)
theorem dX0_goOn_63 : decode cX0_goOn 63 = .ok (.if_icmp .ge 25, 3) := dec_162 (a := 0) (b := 25) (gB drcX0_goOn_0 63 rfl rfl) (gB drcX0_goOn_1 0 rfl rfl) (gB drcX0_goOn_1 1 rfl rfl)
theorem dX0_goOn_66 : decode cX0_goOn 66 = .ok (.aload_n 2, 1) := dec_44 (gB drcX0_goOn_1 2 rfl rfl)
theorem dX0_goOn_67 : decode cX0_goOn 67 = .ok (.aload_n 0, 1) := dec_42 (gB drcX0_goOn_1 3 rfl rfl)
theorem dX0_goOn_68 : decode cX0_goOn 68 = .ok (.getfield 22, 3) := e_180 (x := 0) (y := 22) drcX0_goOn_1 4 rfl rfl
theorem dX0_goOn_71 : decode cX0_goOn 71 = .ok (.iconst 0, 1) := dec_3 (gB drcX0_goOn_1 7 rfl rfl)
theorem dX0_goOn_72 : decode cX0_goOn 72 = .ok (.aload_n 0, 1) := dec_42 (gB drcX0_goOn_1 8 rfl rfl)
theorem dX0_goOn_73 : decode cX0_goOn 73 = .ok (.getfield 22, 3) := e_180 (x := 0) (y := 22) drcX0_goOn_1 9 rfl rfl
theorem dX0_goOn_76 : decode cX0_goOn 76 = .ok (.getfield 39, 3) := e_180 (x := 0) (y := 39) drcX0_goOn_1 12 rfl rfl
theorem dX0_goOn_79 : decode cX0_goOn 79 = .ok (.invokevirtual 42, 3) := e_182 (x := 0) (y := 42) drcX0_goOn_1 15 rfl rfl
theorem dX0_goOn_82 : decode cX0_goOn 82 = .ok (.iinc 4 1, 3) := e_132 (x := 4) (y := 1) drcX0_goOn_1 18 rfl rfl
theorem dX0_goOn_85 : decode cX0_goOn 85 = .ok (.goto (-25), 3) := e_167 (x := 255) (y := 231) drcX0_goOn_1 21 rfl rfl
theorem dX0_goOn_88 : decode cX0_goOn 88 = .ok (.aload_n 2, 1) := dec_44 (gB drcX0_goOn_1 24 rfl rfl)
theorem dX0_goOn_89 : decode cX0_goOn 89 = .ok (.aload_n 0, 1) := dec_42 (gB drcX0_goOn_1 25 rfl rfl)
theorem dX0_goOn_90 : decode cX0_goOn 90 = .ok (.getfield 18, 3) := e_180 (x := 0) (y := 18) drcX0_goOn_1 26 rfl rfl
theorem dX0_goOn_93 : decode cX0_goOn 93 = .ok (.iconst 0, 1) := dec_3 (gB drcX0_goOn_1 29 rfl rfl)
theorem dX0_goOn_94 : decode cX0_goOn 94 = .ok (.aload_n 0, 1) := dec_42 (gB drcX0_goOn_1 30 rfl rfl)
theorem dX0_goOn_95 : decode cX0_goOn 95 = .ok (.getfield 18, 3) := e_180 (x := 0) (y := 18) drcX0_goOn_1 31 rfl rfl
theorem dX0_goOn_98 : decode cX0_goOn 98 = .ok (.getfield 39, 3) := e_180 (x := 0) (y := 39) drcX0_goOn_1 34 rfl rfl
theorem dX0_goOn_101 : decode cX0_goOn 101 = .ok (.invokevirtual 42, 3) := e_182 (x := 0) (y := 42) drcX0_goOn_1 37 rfl rfl
theorem dX0_goOn_104 : decode cX0_goOn 104 = .ok (.aload_n 0, 1) := dec_42 (gB drcX0_goOn_1 40 rfl rfl)
theorem dX0_goOn_105 : decode cX0_goOn 105 = .ok (.getfield 18, 3) := e_180 (x := 0) (y := 18) drcX0_goOn_1 41 rfl rfl
theorem dX0_goOn_108 : decode cX0_goOn 108 = .ok (.aload_n 0, 1) := dec_42 (gB drcX0_goOn_1 44 rfl rfl)
theorem dX0_goOn_109 : decode cX0_goOn 109 = .ok (.getfield 22, 3) := e_180 (x := 0) (y := 22) drcX0_goOn_1 45 rfl rfl
theorem dX0_goOn_112 : decode cX0_goOn 112 = .ok (.invokevirtual 46, 3) := e_182 (x := 0) (y := 46) drcX0_goOn_1 48 rfl rfl
theorem dX0_goOn_115 : decode cX0_goOn 115 = .ok (.aload_n 0, 1) := dec_42 (gB drcX0_goOn_1 51 rfl rfl)
theorem dX0_goOn_116 : decode cX0_goOn 116 = .ok (.getfield 22, 3) := e_180 (x := 0) (y := 22) drcX0_goOn_1 52 rfl rfl
theorem dX0_goOn_119 : decode cX0_goOn 119 = .ok (.aload_n 2, 1) := dec_44 (gB drcX0_goOn_1 55 rfl rfl)
theorem dX0_goOn_120 : decode cX0_goOn 120 = .ok (.invokevirtual 46, 3) := e_182 (x := 0) (y := 46) drcX0_goOn_1 56 rfl rfl
theorem dX0_goOn_123 : decode cX0_goOn 123 = .ok (.aload_n 0, 1) := dec_42 (gB drcX0_goOn_1 59 rfl rfl)
theorem dX0_goOn_124 : decode cX0_goOn 124 = .ok (.getfield 9, 3) := e_180 (x := 0) (y := 9) drcX0_goOn_1 60 rfl rfl
theorem dX0_goOn_127 : decode cX0_goOn 127 = .ok (.aload_n 0, 1) := dec_42 (gB drcX0_goOn_1 63 rfl rfl)
theorem dX0_goOn_128 : decode cX0_goOn 128 = .ok (.getfield 28, 3) := e_180 (x := 0) (y := 28) drcX0_goOn_2 0 rfl rfl
theorem dX0_goOn_131 : decode cX0_goOn 131 = .ok (.iload_n 1, 1) := dec_27 (gB drcX0_goOn_2 3 rfl rfl)
theorem dX0_goOn_132 : decode cX0_goOn 132 = .ok (.iastore, 1) := dec_79 (gB drcX0_goOn_2 4 rfl rfl)
theorem dX0_goOn_133 : decode cX0_goOn 133 = .ok (.aload_n 0, 1) := dec_42 (gB drcX0_goOn_2 5 rfl rfl)
theorem dX0_goOn_134 : decode cX0_goOn 134 = .ok (.dup, 1) := dec_89 (gB drcX0_goOn_2 6 rfl rfl)
theorem dX0_goOn_135 : decode cX0_goOn 135 = .ok (.getfield 28, 3) := e_180 (x := 0) (y := 28) drcX0_goOn_2 7 rfl rfl
theorem dX0_goOn_138 : decode cX0_goOn 138 = .ok (.iconst 1, 1) := dec_4 (gB drcX0_goOn_2 10 rfl rfl)
theorem dX0_goOn_139 : decode cX0_goOn 139 = .ok (.iadd, 1) := dec_96 (gB drcX0_goOn_2 11 rfl rfl)
theorem dX0_goOn_140 : decode cX0_goOn 140 = .ok (.putfield 28, 3) := e_181 (x := 0) (y := 28) drcX0_goOn_2 12 rfl rfl
theorem dX0_goOn_143 : decode cX0_goOn 143 = .ok (.iconst 1, 1) := dec_4 (gB drcX0_goOn_2 15 rfl rfl)
theorem dX0_goOn_144 : decode cX0_goOn 144 = .ok (.ireturn, 1) := dec_172 (gB drcX0_goOn_2 16 rfl rfl)
def lkcX0_goBack_0 : List UInt8 := [0x2a, 0x2a, 0xb4, 0x00, 0x1c, 0x04, 0x64, 0xb6, 0x00, 0x32, 0x3d, 0x2b, 0xb6, 0x00, 0x20, 0x2b, 0x2a, 0xb4, 0x00, 0x16, 0x1c, 0x2a, 0xb4, 0x00, 0x12, 0xb4, 0x00, 0x27, 0x68, 0x2a, 0xb4, 0x00, 0x16, 0xb4, 0x00, 0x27, 0xb6, 0x00, 0x2a, 0x2a, 0xb4, 0x00, 0x16, 0x2a, 0xb4, 0x00, 0x12, 0xb6, 0x00, 0x2e, 0x2a, 0xb4, 0x00, 0x12, 0x2b, 0xb6, 0x00, 0x2e, 0x2a, 0x59, 0xb4, 0x00, 0x1c, 0x04]
def lkcX0_goBack_1 : List UInt8 := [0x64, 0xb5, 0x00, 0x1c, 0x1c, 0xac]
def tkcX0_goBack_1 : List UInt8 := lkcX0_goBack_1 ++ []
def tkcX0_goBack_0 : List UInt8 := lkcX0_goBack_0 ++ tkcX0_goBack_1
theorem drcX0_goBack_0 : (cX0_goBack).data.toList.drop 0 = lkcX0_goBack_0 ++ tkcX0_goBack_1 := by decide +kernel
theorem drcX0_goBack_1 : (cX0_goBack).data.toList.drop 64 = lkcX0_goBack_1 ++ [] := dr_step drcX0_goBack_0 rfl
theorem dX0_goBack_0 : decode cX0_goBack 0 = .ok (.aload_n 0, 1) := dec_42 (gB drcX0_goBack_0 0 rfl rfl)
theorem dX0_goBack_1 : decode cX0_goBack 1 = .ok (.aload_n 0, 1) := dec_42 (gB drcX0_goBack_0 1 rfl rfl)
theorem dX0_goBack_2 : decode cX0_goBack 2 = .ok (.getfield 28, 3) := e_180 (x := 0) (y := 28) drcX0_goBack_0 2 rfl rfl
theorem dX0_goBack_5 : decode cX0_goBack 5 = .ok (.iconst 1, 1) := dec_4 (gB drcX0_goBack_0 5 rfl rfl)
theorem dX0_goBack_6 : decode cX0_goBack 6 = .ok (.isub, 1) := dec_100 (gB drcX0_goBack_0 6 rfl rfl)
theorem dX0_goBack_7 : decode cX0_goBack 7 = .ok (.invokevirtual 50, 3) := e_182 (x := 0) (y := 50) drcX0_goBack_0 7 rfl rfl
theorem dX0_goBack_10 : decode cX0_goBack 10 = .ok (.istore_n 2, 1) := dec_61 (gB drcX0_goBack_0 10 rfl rfl)
theorem dX0_goBack_11 : decode cX0_goBack 11 = .ok (.aload_n 1, 1) := dec_43 (gB drcX0_goBack_0 11 rfl rfl)
theorem dX0_goBack_12 : decode cX0_goBack 12 = .ok (.invokevirtual 32, 3) := e_182 (x := 0) (y := 32) drcX0_goBack_0 12 rfl rfl
theorem dX0_goBack_15 : decode cX0_goBack 15 = .ok (.aload_n 1, 1) := dec_43 (gB drcX0_goBack_0 15 rfl rfl)
theorem dX0_goBack_16 : decode cX0_goBack 16 = .ok (.aload_n 0, 1) := dec_42 (gB drcX0_goBack_0 16 rfl rfl)
theorem dX0_goBack_17 : decode cX0_goBack 17 = .ok (.getfield 22, 3) := e_180 (x := 0) (y := 22) drcX0_goBack_0 17 rfl rfl
theorem dX0_goBack_20 : decode cX0_goBack 20 = .ok (.iload_n 2, 1) := dec_28 (gB drcX0_goBack_0 20 rfl rfl)
theorem dX0_goBack_21 : decode cX0_goBack 21 = .ok (.aload_n 0, 1) := dec_42 (gB drcX0_goBack_0 21 rfl rfl)
theorem dX0_goBack_22 : decode cX0_goBack 22 = .ok (.getfield 18, 3) := e_180 (x := 0) (y := 18) drcX0_goBack_0 22 rfl rfl
theorem dX0_goBack_25 : decode cX0_goBack 25 = .ok (.getfield 39, 3) := e_180 (x := 0) (y := 39) drcX0_goBack_0 25 rfl rfl
theorem dX0_goBack_28 : decode cX0_goBack 28 = .ok (.imul, 1) := dec_104 (gB drcX0_goBack_0 28 rfl rfl)
theorem dX0_goBack_29 : decode cX0_goBack 29 = .ok (.aload_n 0, 1) := dec_42 (gB drcX0_goBack_0 29 rfl rfl)
theorem dX0_goBack_30 : decode cX0_goBack 30 = .ok (.getfield 22, 3) := e_180 (x := 0) (y := 22) drcX0_goBack_0 30 rfl rfl
theorem dX0_goBack_33 : decode cX0_goBack 33 = .ok (.getfield 39, 3) := e_180 (x := 0) (y := 39) drcX0_goBack_0 33 rfl rfl
theorem dX0_goBack_36 : decode cX0_goBack 36 = .ok (.invokevirtual 42, 3) := e_182 (x := 0) (y := 42) drcX0_goBack_0 36 rfl rfl
theorem dX0_goBack_39 : decode cX0_goBack 39 = .ok (.aload_n 0, 1) := dec_42 (gB drcX0_goBack_0 39 rfl rfl)
theorem dX0_goBack_40 : decode cX0_goBack 40 = .ok (.getfield 22, 3) := e_180 (x := 0) (y := 22) drcX0_goBack_0 40 rfl rfl
theorem dX0_goBack_43 : decode cX0_goBack 43 = .ok (.aload_n 0, 1) := dec_42 (gB drcX0_goBack_0 43 rfl rfl)
theorem dX0_goBack_44 : decode cX0_goBack 44 = .ok (.getfield 18, 3) := e_180 (x := 0) (y := 18) drcX0_goBack_0 44 rfl rfl
theorem dX0_goBack_47 : decode cX0_goBack 47 = .ok (.invokevirtual 46, 3) := e_182 (x := 0) (y := 46) drcX0_goBack_0 47 rfl rfl
theorem dX0_goBack_50 : decode cX0_goBack 50 = .ok (.aload_n 0, 1) := dec_42 (gB drcX0_goBack_0 50 rfl rfl)
theorem dX0_goBack_51 : decode cX0_goBack 51 = .ok (.getfield 18, 3) := e_180 (x := 0) (y := 18) drcX0_goBack_0 51 rfl rfl
theorem dX0_goBack_54 : decode cX0_goBack 54 = .ok (.aload_n 1, 1) := dec_43 (gB drcX0_goBack_0 54 rfl rfl)
theorem dX0_goBack_55 : decode cX0_goBack 55 = .ok (.invokevirtual 46, 3) := e_182 (x := 0) (y := 46) drcX0_goBack_0 55 rfl rfl
theorem dX0_goBack_58 : decode cX0_goBack 58 = .ok (.aload_n 0, 1) := dec_42 (gB drcX0_goBack_0 58 rfl rfl)
theorem dX0_goBack_59 : decode cX0_goBack 59 = .ok (.dup, 1) := dec_89 (gB drcX0_goBack_0 59 rfl rfl)
theorem dX0_goBack_60 : decode cX0_goBack 60 = .ok (.getfield 28, 3) := e_180 (x := 0) (y := 28) drcX0_goBack_0 60 rfl rfl
theorem dX0_goBack_63 : decode cX0_goBack 63 = .ok (.iconst 1, 1) := dec_4 (gB drcX0_goBack_0 63 rfl rfl)
theorem dX0_goBack_64 : decode cX0_goBack 64 = .ok (.isub, 1) := dec_100 (gB drcX0_goBack_1 0 rfl rfl)
theorem dX0_goBack_65 : decode cX0_goBack 65 = .ok (.putfield 28, 3) := e_181 (x := 0) (y := 28) drcX0_goBack_1 1 rfl rfl
theorem dX0_goBack_68 : decode cX0_goBack 68 = .ok (.iload_n 2, 1) := dec_28 (gB drcX0_goBack_1 4 rfl rfl)
theorem dX0_goBack_69 : decode cX0_goBack 69 = .ok (.ireturn, 1) := dec_172 (gB drcX0_goBack_1 5 rfl rfl)
def lkcX0_layByRules_0 : List UInt8 := [0x2b, 0xb6, 0x00, 0x20, 0x2b, 0x03, 0xb6, 0x00, 0x23, 0x2a, 0xb4, 0x00, 0x1c, 0x04, 0x64, 0x36, 0x04, 0x15, 0x04, 0x9b, 0x00, 0x22, 0x2d, 0x2a, 0x15, 0x04, 0xb6, 0x00, 0x32, 0xb8, 0x00, 0x36, 0x05, 0xb6, 0x00, 0x39, 0x2d, 0x2b, 0x2c, 0xb6, 0x00, 0x3e, 0x2b, 0x2c, 0xb6, 0x00, 0x2e, 0x84, 0x04, 0xff, 0xa7, 0xff, 0xdf, 0xb1]
def tkcX0_layByRules_0 : List UInt8 := lkcX0_layByRules_0 ++ []
theorem drcX0_layByRules_0 : (cX0_layByRules).data.toList.drop 0 = lkcX0_layByRules_0 ++ [] := by decide +kernel
theorem dX0_layByRules_0 : decode cX0_layByRules 0 = .ok (.aload_n 1, 1) := dec_43 (gB drcX0_layByRules_0 0 rfl rfl)
theorem dX0_layByRules_1 : decode cX0_layByRules 1 = .ok (.invokevirtual 32, 3) := e_182 (x := 0) (y := 32) drcX0_layByRules_0 1 rfl rfl
theorem dX0_layByRules_4 : decode cX0_layByRules 4 = .ok (.aload_n 1, 1) := dec_43 (gB drcX0_layByRules_0 4 rfl rfl)
theorem dX0_layByRules_5 : decode cX0_layByRules 5 = .ok (.iconst 0, 1) := dec_3 (gB drcX0_layByRules_0 5 rfl rfl)
theorem dX0_layByRules_6 : decode cX0_layByRules 6 = .ok (.invokevirtual 35, 3) := e_182 (x := 0) (y := 35) drcX0_layByRules_0 6 rfl rfl
theorem dX0_layByRules_9 : decode cX0_layByRules 9 = .ok (.aload_n 0, 1) := dec_42 (gB drcX0_layByRules_0 9 rfl rfl)
theorem dX0_layByRules_10 : decode cX0_layByRules 10 = .ok (.getfield 28, 3) := e_180 (x := 0) (y := 28) drcX0_layByRules_0 10 rfl rfl
theorem dX0_layByRules_13 : decode cX0_layByRules 13 = .ok (.iconst 1, 1) := dec_4 (gB drcX0_layByRules_0 13 rfl rfl)
theorem dX0_layByRules_14 : decode cX0_layByRules 14 = .ok (.isub, 1) := dec_100 (gB drcX0_layByRules_0 14 rfl rfl)
theorem dX0_layByRules_15 : decode cX0_layByRules 15 = .ok (.istore 4, 2) := e_54 (x := 4) drcX0_layByRules_0 15 rfl rfl
theorem dX0_layByRules_17 : decode cX0_layByRules 17 = .ok (.iload 4, 2) := e_21 (x := 4) drcX0_layByRules_0 17 rfl rfl
theorem dX0_layByRules_19 : decode cX0_layByRules 19 = .ok (.ifCond .lt 34, 3) := e_155 (x := 0) (y := 34) drcX0_layByRules_0 19 rfl rfl
theorem dX0_layByRules_22 : decode cX0_layByRules 22 = .ok (.aload_n 3, 1) := dec_45 (gB drcX0_layByRules_0 22 rfl rfl)
theorem dX0_layByRules_23 : decode cX0_layByRules 23 = .ok (.aload_n 0, 1) := dec_42 (gB drcX0_layByRules_0 23 rfl rfl)
theorem dX0_layByRules_24 : decode cX0_layByRules 24 = .ok (.iload 4, 2) := e_21 (x := 4) drcX0_layByRules_0 24 rfl rfl
theorem dX0_layByRules_26 : decode cX0_layByRules 26 = .ok (.invokevirtual 50, 3) := e_182 (x := 0) (y := 50) drcX0_layByRules_0 26 rfl rfl
theorem dX0_layByRules_29 : decode cX0_layByRules 29 = .ok (.invokestatic 54, 3) := e_184 (x := 0) (y := 54) drcX0_layByRules_0 29 rfl rfl
theorem dX0_layByRules_32 : decode cX0_layByRules 32 = .ok (.iconst 2, 1) := dec_5 (gB drcX0_layByRules_0 32 rfl rfl)
theorem dX0_layByRules_33 : decode cX0_layByRules 33 = .ok (.invokevirtual 57, 3) := e_182 (x := 0) (y := 57) drcX0_layByRules_0 33 rfl rfl
theorem dX0_layByRules_36 : decode cX0_layByRules 36 = .ok (.aload_n 3, 1) := dec_45 (gB drcX0_layByRules_0 36 rfl rfl)
theorem dX0_layByRules_37 : decode cX0_layByRules 37 = .ok (.aload_n 1, 1) := dec_43 (gB drcX0_layByRules_0 37 rfl rfl)
theorem dX0_layByRules_38 : decode cX0_layByRules 38 = .ok (.aload_n 2, 1) := dec_44 (gB drcX0_layByRules_0 38 rfl rfl)
theorem dX0_layByRules_39 : decode cX0_layByRules 39 = .ok (.invokevirtual 62, 3) := e_182 (x := 0) (y := 62) drcX0_layByRules_0 39 rfl rfl
theorem dX0_layByRules_42 : decode cX0_layByRules 42 = .ok (.aload_n 1, 1) := dec_43 (gB drcX0_layByRules_0 42 rfl rfl)
theorem dX0_layByRules_43 : decode cX0_layByRules 43 = .ok (.aload_n 2, 1) := dec_44 (gB drcX0_layByRules_0 43 rfl rfl)
theorem dX0_layByRules_44 : decode cX0_layByRules 44 = .ok (.invokevirtual 46, 3) := e_182 (x := 0) (y := 46) drcX0_layByRules_0 44 rfl rfl
theorem dX0_layByRules_47 : decode cX0_layByRules 47 = .ok (.iinc 4 (-1), 3) := e_132 (x := 4) (y := 255) drcX0_layByRules_0 47 rfl rfl
theorem dX0_layByRules_50 : decode cX0_layByRules 50 = .ok (.goto (-33), 3) := e_167 (x := 255) (y := 223) drcX0_layByRules_0 50 rfl rfl
theorem dX0_layByRules_53 : decode cX0_layByRules 53 = .ok (.return_, 1) := dec_177 (gB drcX0_layByRules_0 53 rfl rfl)
def lkcX0_codeForA_0 : List UInt8 := [0x1a, 0x9b, 0x00, 0x13, 0x1a, 0xb2, 0x00, 0x42, 0xbe, 0xa2, 0x00, 0x0b, 0xb2, 0x00, 0x42, 0x1a, 0x2e, 0xa7, 0x00, 0x04, 0x03, 0xac]
def tkcX0_codeForA_0 : List UInt8 := lkcX0_codeForA_0 ++ []
theorem drcX0_codeForA_0 : (cX0_codeForA).data.toList.drop 0 = lkcX0_codeForA_0 ++ [] := by decide +kernel
theorem dX0_codeForA_0 : decode cX0_codeForA 0 = .ok (.iload_n 0, 1) := dec_26 (gB drcX0_codeForA_0 0 rfl rfl)
theorem dX0_codeForA_1 : decode cX0_codeForA 1 = .ok (.ifCond .lt 19, 3) := e_155 (x := 0) (y := 19) drcX0_codeForA_0 1 rfl rfl
theorem dX0_codeForA_4 : decode cX0_codeForA 4 = .ok (.iload_n 0, 1) := dec_26 (gB drcX0_codeForA_0 4 rfl rfl)
theorem dX0_codeForA_5 : decode cX0_codeForA 5 = .ok (.getstatic 66, 3) := e_178 (x := 0) (y := 66) drcX0_codeForA_0 5 rfl rfl
theorem dX0_codeForA_8 : decode cX0_codeForA 8 = .ok (.arraylength, 1) := dec_190 (gB drcX0_codeForA_0 8 rfl rfl)
theorem dX0_codeForA_9 : decode cX0_codeForA 9 = .ok (.if_icmp .ge 11, 3) := e_162 (x := 0) (y := 11) drcX0_codeForA_0 9 rfl rfl
theorem dX0_codeForA_12 : decode cX0_codeForA 12 = .ok (.getstatic 66, 3) := e_178 (x := 0) (y := 66) drcX0_codeForA_0 12 rfl rfl
theorem dX0_codeForA_15 : decode cX0_codeForA 15 = .ok (.iload_n 0, 1) := dec_26 (gB drcX0_codeForA_0 15 rfl rfl)
theorem dX0_codeForA_16 : decode cX0_codeForA 16 = .ok (.iaload, 1) := dec_46 (gB drcX0_codeForA_0 16 rfl rfl)
theorem dX0_codeForA_17 : decode cX0_codeForA 17 = .ok (.goto 4, 3) := e_167 (x := 0) (y := 4) drcX0_codeForA_0 17 rfl rfl
theorem dX0_codeForA_20 : decode cX0_codeForA 20 = .ok (.iconst 0, 1) := dec_3 (gB drcX0_codeForA_0 20 rfl rfl)
theorem dX0_codeForA_21 : decode cX0_codeForA 21 = .ok (.ireturn, 1) := dec_172 (gB drcX0_codeForA_0 21 rfl rfl)
def lkcX0_layByLine_0 : List UInt8 := [0x04, 0x3d, 0x04, 0x3e, 0x04, 0x36, 0x04, 0x03, 0x36, 0x05, 0x03, 0x36, 0x06, 0x15, 0x06, 0x2a, 0xb4, 0x00, 0x1c, 0xa2, 0x00, 0x31, 0x2a, 0x15, 0x06, 0xb6, 0x00, 0x32, 0x36, 0x07, 0x15, 0x07, 0x15, 0x04, 0x68, 0x1c, 0x60, 0x36, 0x08, 0x15, 0x07, 0x15, 0x05, 0x68, 0x1d, 0x60, 0x36, 0x09, 0x15, 0x04, 0x3d, 0x15, 0x05, 0x3e, 0x15, 0x08, 0x36, 0x04, 0x15, 0x09, 0x36, 0x05, 0x84, 0x06]
def lkcX0_layByLine_1 : List UInt8 := [0x01, 0xa7, 0xff, 0xcc, 0x2b, 0xb6, 0x00, 0x20, 0x04, 0x36, 0x06, 0x15, 0x06, 0x15, 0x04, 0x04, 0x64, 0xa2, 0x00, 0x17, 0x2b, 0x15, 0x04, 0x15, 0x05, 0x03, 0x15, 0x06, 0xb8, 0x00, 0x45, 0xb6, 0x00, 0x23, 0x84, 0x06, 0x01, 0xa7, 0xff, 0xe6, 0x2a, 0x2b, 0xb6, 0x00, 0x49, 0xb1]
def tkcX0_layByLine_1 : List UInt8 := lkcX0_layByLine_1 ++ []
def tkcX0_layByLine_0 : List UInt8 := lkcX0_layByLine_0 ++ tkcX0_layByLine_1
theorem drcX0_layByLine_0 : (cX0_layByLine).data.toList.drop 0 = lkcX0_layByLine_0 ++ tkcX0_layByLine_1 := by decide +kernel
theorem drcX0_layByLine_1 : (cX0_layByLine).data.toList.drop 64 = lkcX0_layByLine_1 ++ [] := dr_step drcX0_layByLine_0 rfl
theorem dX0_layByLine_0 : decode cX0_layByLine 0 = .ok (.iconst 1, 1) := dec_4 (gB drcX0_layByLine_0 0 rfl rfl)
theorem dX0_layByLine_1 : decode cX0_layByLine 1 = .ok (.istore_n 2, 1) := dec_61 (gB drcX0_layByLine_0 1 rfl rfl)
theorem dX0_layByLine_2 : decode cX0_layByLine 2 = .ok (.iconst 1, 1) := dec_4 (gB drcX0_layByLine_0 2 rfl rfl)
theorem dX0_layByLine_3 : decode cX0_layByLine 3 = .ok (.istore_n 3, 1) := dec_62 (gB drcX0_layByLine_0 3 rfl rfl)
theorem dX0_layByLine_4 : decode cX0_layByLine 4 = .ok (.iconst 1, 1) := dec_4 (gB drcX0_layByLine_0 4 rfl rfl)
theorem dX0_layByLine_5 : decode cX0_layByLine 5 = .ok (.istore 4, 2) := e_54 (x := 4) drcX0_layByLine_0 5 rfl rfl
theorem dX0_layByLine_7 : decode cX0_layByLine 7 = .ok (.iconst 0, 1) := dec_3 (gB drcX0_layByLine_0 7 rfl rfl)
theorem dX0_layByLine_8 : decode cX0_layByLine 8 = .ok (.istore 5, 2) := e_54 (x := 5) drcX0_layByLine_0 8 rfl rfl
theorem dX0_layByLine_10 : decode cX0_layByLine 10 = .ok (.iconst 0, 1) := dec_3 (gB drcX0_layByLine_0 10 rfl rfl)
theorem dX0_layByLine_11 : decode cX0_layByLine 11 = .ok (.istore 6, 2) := e_54 (x := 6) drcX0_layByLine_0 11 rfl rfl
theorem dX0_layByLine_13 : decode cX0_layByLine 13 = .ok (.iload 6, 2) := e_21 (x := 6) drcX0_layByLine_0 13 rfl rfl
theorem dX0_layByLine_15 : decode cX0_layByLine 15 = .ok (.aload_n 0, 1) := dec_42 (gB drcX0_layByLine_0 15 rfl rfl)
theorem dX0_layByLine_16 : decode cX0_layByLine 16 = .ok (.getfield 28, 3) := e_180 (x := 0) (y := 28) drcX0_layByLine_0 16 rfl rfl
theorem dX0_layByLine_19 : decode cX0_layByLine 19 = .ok (.if_icmp .ge 49, 3) := e_162 (x := 0) (y := 49) drcX0_layByLine_0 19 rfl rfl
theorem dX0_layByLine_22 : decode cX0_layByLine 22 = .ok (.aload_n 0, 1) := dec_42 (gB drcX0_layByLine_0 22 rfl rfl)
theorem dX0_layByLine_23 : decode cX0_layByLine 23 = .ok (.iload 6, 2) := e_21 (x := 6) drcX0_layByLine_0 23 rfl rfl
theorem dX0_layByLine_25 : decode cX0_layByLine 25 = .ok (.invokevirtual 50, 3) := e_182 (x := 0) (y := 50) drcX0_layByLine_0 25 rfl rfl
theorem dX0_layByLine_28 : decode cX0_layByLine 28 = .ok (.istore 7, 2) := e_54 (x := 7) drcX0_layByLine_0 28 rfl rfl
theorem dX0_layByLine_30 : decode cX0_layByLine 30 = .ok (.iload 7, 2) := e_21 (x := 7) drcX0_layByLine_0 30 rfl rfl
theorem dX0_layByLine_32 : decode cX0_layByLine 32 = .ok (.iload 4, 2) := e_21 (x := 4) drcX0_layByLine_0 32 rfl rfl
theorem dX0_layByLine_34 : decode cX0_layByLine 34 = .ok (.imul, 1) := dec_104 (gB drcX0_layByLine_0 34 rfl rfl)
theorem dX0_layByLine_35 : decode cX0_layByLine 35 = .ok (.iload_n 2, 1) := dec_28 (gB drcX0_layByLine_0 35 rfl rfl)
theorem dX0_layByLine_36 : decode cX0_layByLine 36 = .ok (.iadd, 1) := dec_96 (gB drcX0_layByLine_0 36 rfl rfl)
theorem dX0_layByLine_37 : decode cX0_layByLine 37 = .ok (.istore 8, 2) := e_54 (x := 8) drcX0_layByLine_0 37 rfl rfl
theorem dX0_layByLine_39 : decode cX0_layByLine 39 = .ok (.iload 7, 2) := e_21 (x := 7) drcX0_layByLine_0 39 rfl rfl
theorem dX0_layByLine_41 : decode cX0_layByLine 41 = .ok (.iload 5, 2) := e_21 (x := 5) drcX0_layByLine_0 41 rfl rfl
theorem dX0_layByLine_43 : decode cX0_layByLine 43 = .ok (.imul, 1) := dec_104 (gB drcX0_layByLine_0 43 rfl rfl)
theorem dX0_layByLine_44 : decode cX0_layByLine 44 = .ok (.iload_n 3, 1) := dec_29 (gB drcX0_layByLine_0 44 rfl rfl)
theorem dX0_layByLine_45 : decode cX0_layByLine 45 = .ok (.iadd, 1) := dec_96 (gB drcX0_layByLine_0 45 rfl rfl)
theorem dX0_layByLine_46 : decode cX0_layByLine 46 = .ok (.istore 9, 2) := e_54 (x := 9) drcX0_layByLine_0 46 rfl rfl
theorem dX0_layByLine_48 : decode cX0_layByLine 48 = .ok (.iload 4, 2) := e_21 (x := 4) drcX0_layByLine_0 48 rfl rfl
theorem dX0_layByLine_50 : decode cX0_layByLine 50 = .ok (.istore_n 2, 1) := dec_61 (gB drcX0_layByLine_0 50 rfl rfl)
theorem dX0_layByLine_51 : decode cX0_layByLine 51 = .ok (.iload 5, 2) := e_21 (x := 5) drcX0_layByLine_0 51 rfl rfl
theorem dX0_layByLine_53 : decode cX0_layByLine 53 = .ok (.istore_n 3, 1) := dec_62 (gB drcX0_layByLine_0 53 rfl rfl)
theorem dX0_layByLine_54 : decode cX0_layByLine 54 = .ok (.iload 8, 2) := e_21 (x := 8) drcX0_layByLine_0 54 rfl rfl
theorem dX0_layByLine_56 : decode cX0_layByLine 56 = .ok (.istore 4, 2) := e_54 (x := 4) drcX0_layByLine_0 56 rfl rfl
theorem dX0_layByLine_58 : decode cX0_layByLine 58 = .ok (.iload 9, 2) := e_21 (x := 9) drcX0_layByLine_0 58 rfl rfl
theorem dX0_layByLine_60 : decode cX0_layByLine 60 = .ok (.istore 5, 2) := e_54 (x := 5) drcX0_layByLine_0 60 rfl rfl
theorem dX0_layByLine_62 : decode cX0_layByLine 62 = .ok (.iinc 6 1, 3) := dec_132 (a := 6) (b := 1) (gB drcX0_layByLine_0 62 rfl rfl) (gB drcX0_layByLine_0 63 rfl rfl) (gB drcX0_layByLine_1 0 rfl rfl)
theorem dX0_layByLine_65 : decode cX0_layByLine 65 = .ok (.goto (-52), 3) := e_167 (x := 255) (y := 204) drcX0_layByLine_1 1 rfl rfl
theorem dX0_layByLine_68 : decode cX0_layByLine 68 = .ok (.aload_n 1, 1) := dec_43 (gB drcX0_layByLine_1 4 rfl rfl)
theorem dX0_layByLine_69 : decode cX0_layByLine 69 = .ok (.invokevirtual 32, 3) := e_182 (x := 0) (y := 32) drcX0_layByLine_1 5 rfl rfl
theorem dX0_layByLine_72 : decode cX0_layByLine 72 = .ok (.iconst 1, 1) := dec_4 (gB drcX0_layByLine_1 8 rfl rfl)
theorem dX0_layByLine_73 : decode cX0_layByLine 73 = .ok (.istore 6, 2) := e_54 (x := 6) drcX0_layByLine_1 9 rfl rfl
theorem dX0_layByLine_75 : decode cX0_layByLine 75 = .ok (.iload 6, 2) := e_21 (x := 6) drcX0_layByLine_1 11 rfl rfl
theorem dX0_layByLine_77 : decode cX0_layByLine 77 = .ok (.iload 4, 2) := e_21 (x := 4) drcX0_layByLine_1 13 rfl rfl
theorem dX0_layByLine_79 : decode cX0_layByLine 79 = .ok (.iconst 1, 1) := dec_4 (gB drcX0_layByLine_1 15 rfl rfl)
theorem dX0_layByLine_80 : decode cX0_layByLine 80 = .ok (.isub, 1) := dec_100 (gB drcX0_layByLine_1 16 rfl rfl)
theorem dX0_layByLine_81 : decode cX0_layByLine 81 = .ok (.if_icmp .ge 23, 3) := e_162 (x := 0) (y := 23) drcX0_layByLine_1 17 rfl rfl
theorem dX0_layByLine_84 : decode cX0_layByLine 84 = .ok (.aload_n 1, 1) := dec_43 (gB drcX0_layByLine_1 20 rfl rfl)
theorem dX0_layByLine_85 : decode cX0_layByLine 85 = .ok (.iload 4, 2) := e_21 (x := 4) drcX0_layByLine_1 21 rfl rfl
theorem dX0_layByLine_87 : decode cX0_layByLine 87 = .ok (.iload 5, 2) := e_21 (x := 5) drcX0_layByLine_1 23 rfl rfl
theorem dX0_layByLine_89 : decode cX0_layByLine 89 = .ok (.iconst 0, 1) := dec_3 (gB drcX0_layByLine_1 25 rfl rfl)
theorem dX0_layByLine_90 : decode cX0_layByLine 90 = .ok (.iload 6, 2) := e_21 (x := 6) drcX0_layByLine_1 26 rfl rfl
theorem dX0_layByLine_92 : decode cX0_layByLine 92 = .ok (.invokestatic 69, 3) := e_184 (x := 0) (y := 69) drcX0_layByLine_1 28 rfl rfl
theorem dX0_layByLine_95 : decode cX0_layByLine 95 = .ok (.invokevirtual 35, 3) := e_182 (x := 0) (y := 35) drcX0_layByLine_1 31 rfl rfl
theorem dX0_layByLine_98 : decode cX0_layByLine 98 = .ok (.iinc 6 1, 3) := e_132 (x := 6) (y := 1) drcX0_layByLine_1 34 rfl rfl
theorem dX0_layByLine_101 : decode cX0_layByLine 101 = .ok (.goto (-26), 3) := e_167 (x := 255) (y := 230) drcX0_layByLine_1 37 rfl rfl
theorem dX0_layByLine_104 : decode cX0_layByLine 104 = .ok (.aload_n 0, 1) := dec_42 (gB drcX0_layByLine_1 40 rfl rfl)
theorem dX0_layByLine_105 : decode cX0_layByLine 105 = .ok (.aload_n 1, 1) := dec_43 (gB drcX0_layByLine_1 41 rfl rfl)
theorem dX0_layByLine_106 : decode cX0_layByLine 106 = .ok (.invokevirtual 73, 3) := e_182 (x := 0) (y := 73) drcX0_layByLine_1 42 rfl rfl
theorem dX0_layByLine_109 : decode cX0_layByLine 109 = .ok (.return_, 1) := dec_177 (gB drcX0_layByLine_1 45 rfl rfl)
def lkcX0_addLineEnd_0 : List UInt8 := [0x2a, 0xb4, 0x00, 0x1c, 0x05, 0x70, 0x04, 0xa0, 0x00, 0x07, 0x04, 0xa7, 0x00, 0x04, 0x03, 0x3d, 0x2a, 0xb4, 0x00, 0x1c, 0x9e, 0x00, 0x10, 0x2b, 0x1c, 0x9a, 0x00, 0x07, 0x04, 0xa7, 0x00, 0x04, 0x03, 0xb6, 0x00, 0x23, 0x2b, 0x1c, 0xb6, 0x00, 0x23, 0xb1]
def tkcX0_addLineEnd_0 : List UInt8 := lkcX0_addLineEnd_0 ++ []
theorem drcX0_addLineEnd_0 : (cX0_addLineEnd).data.toList.drop 0 = lkcX0_addLineEnd_0 ++ [] := by decide +kernel
theorem dX0_addLineEnd_0 : decode cX0_addLineEnd 0 = .ok (.aload_n 0, 1) := dec_42 (gB drcX0_addLineEnd_0 0 rfl rfl)
theorem dX0_addLineEnd_1 : decode cX0_addLineEnd 1 = .ok (.getfield 28, 3) := e_180 (x := 0) (y := 28) drcX0_addLineEnd_0 1 rfl rfl
theorem dX0_addLineEnd_4 : decode cX0_addLineEnd 4 = .ok (.iconst 2, 1) := dec_5 (gB drcX0_addLineEnd_0 4 rfl rfl)
theorem dX0_addLineEnd_5 : decode cX0_addLineEnd 5 = .ok (.irem, 1) := dec_112 (gB drcX0_addLineEnd_0 5 rfl rfl)
theorem dX0_addLineEnd_6 : decode cX0_addLineEnd 6 = .ok (.iconst 1, 1) := dec_4 (gB drcX0_addLineEnd_0 6 rfl rfl)
theorem dX0_addLineEnd_7 : decode cX0_addLineEnd 7 = .ok (.if_icmp .ne 7, 3) := e_160 (x := 0) (y := 7) drcX0_addLineEnd_0 7 rfl rfl
theorem dX0_addLineEnd_10 : decode cX0_addLineEnd 10 = .ok (.iconst 1, 1) := dec_4 (gB drcX0_addLineEnd_0 10 rfl rfl)
theorem dX0_addLineEnd_11 : decode cX0_addLineEnd 11 = .ok (.goto 4, 3) := e_167 (x := 0) (y := 4) drcX0_addLineEnd_0 11 rfl rfl
theorem dX0_addLineEnd_14 : decode cX0_addLineEnd 14 = .ok (.iconst 0, 1) := dec_3 (gB drcX0_addLineEnd_0 14 rfl rfl)
theorem dX0_addLineEnd_15 : decode cX0_addLineEnd 15 = .ok (.istore_n 2, 1) := dec_61 (gB drcX0_addLineEnd_0 15 rfl rfl)
theorem dX0_addLineEnd_16 : decode cX0_addLineEnd 16 = .ok (.aload_n 0, 1) := dec_42 (gB drcX0_addLineEnd_0 16 rfl rfl)
theorem dX0_addLineEnd_17 : decode cX0_addLineEnd 17 = .ok (.getfield 28, 3) := e_180 (x := 0) (y := 28) drcX0_addLineEnd_0 17 rfl rfl
theorem dX0_addLineEnd_20 : decode cX0_addLineEnd 20 = .ok (.ifCond .le 16, 3) := e_158 (x := 0) (y := 16) drcX0_addLineEnd_0 20 rfl rfl
theorem dX0_addLineEnd_23 : decode cX0_addLineEnd 23 = .ok (.aload_n 1, 1) := dec_43 (gB drcX0_addLineEnd_0 23 rfl rfl)
theorem dX0_addLineEnd_24 : decode cX0_addLineEnd 24 = .ok (.iload_n 2, 1) := dec_28 (gB drcX0_addLineEnd_0 24 rfl rfl)
theorem dX0_addLineEnd_25 : decode cX0_addLineEnd 25 = .ok (.ifCond .ne 7, 3) := e_154 (x := 0) (y := 7) drcX0_addLineEnd_0 25 rfl rfl
theorem dX0_addLineEnd_28 : decode cX0_addLineEnd 28 = .ok (.iconst 1, 1) := dec_4 (gB drcX0_addLineEnd_0 28 rfl rfl)
theorem dX0_addLineEnd_29 : decode cX0_addLineEnd 29 = .ok (.goto 4, 3) := e_167 (x := 0) (y := 4) drcX0_addLineEnd_0 29 rfl rfl
theorem dX0_addLineEnd_32 : decode cX0_addLineEnd 32 = .ok (.iconst 0, 1) := dec_3 (gB drcX0_addLineEnd_0 32 rfl rfl)
theorem dX0_addLineEnd_33 : decode cX0_addLineEnd 33 = .ok (.invokevirtual 35, 3) := e_182 (x := 0) (y := 35) drcX0_addLineEnd_0 33 rfl rfl
theorem dX0_addLineEnd_36 : decode cX0_addLineEnd 36 = .ok (.aload_n 1, 1) := dec_43 (gB drcX0_addLineEnd_0 36 rfl rfl)
theorem dX0_addLineEnd_37 : decode cX0_addLineEnd 37 = .ok (.iload_n 2, 1) := dec_28 (gB drcX0_addLineEnd_0 37 rfl rfl)
theorem dX0_addLineEnd_38 : decode cX0_addLineEnd 38 = .ok (.invokevirtual 35, 3) := e_182 (x := 0) (y := 35) drcX0_addLineEnd_0 38 rfl rfl
theorem dX0_addLineEnd_41 : decode cX0_addLineEnd 41 = .ok (.return_, 1) := dec_177 (gB drcX0_addLineEnd_0 41 rfl rfl)
def lkcX1_textOf_0 : List UInt8 := [0xbb, 0x00, 0x09, 0x59, 0xb7, 0x00, 0x0b, 0x4c, 0x03, 0x3d, 0x1c, 0x2a, 0xb4, 0x00, 0x0c, 0xa2, 0x00, 0x1d, 0x2b, 0x2a, 0x1c, 0xb6, 0x00, 0x12, 0x99, 0x00, 0x08, 0x10, 0x62, 0xa7, 0x00, 0x05, 0x10, 0x61, 0xb6, 0x00, 0x16, 0x57, 0x84, 0x02, 0x01, 0xa7, 0xff, 0xe1, 0x2b, 0xb6, 0x00, 0x1a, 0xb0]
def tkcX1_textOf_0 : List UInt8 := lkcX1_textOf_0 ++ []
theorem drcX1_textOf_0 : (cX1_textOf).data.toList.drop 0 = lkcX1_textOf_0 ++ [] := by decide +kernel
theorem dX1_textOf_0 : decode cX1_textOf 0 = .ok (.new 9, 3) := e_187 (x := 0) (y := 9) drcX1_textOf_0 0 rfl rfl
theorem dX1_textOf_3 : decode cX1_textOf 3 = .ok (.dup, 1) := dec_89 (gB drcX1_textOf_0 3 rfl rfl)
theorem dX1_textOf_4 : decode cX1_textOf 4 = .ok (.invokespecial 11, 3) := e_183 (x := 0) (y := 11) drcX1_textOf_0 4 rfl rfl
theorem dX1_textOf_7 : decode cX1_textOf 7 = .ok (.astore_n 1, 1) := dec_76 (gB drcX1_textOf_0 7 rfl rfl)
theorem dX1_textOf_8 : decode cX1_textOf 8 = .ok (.iconst 0, 1) := dec_3 (gB drcX1_textOf_0 8 rfl rfl)
theorem dX1_textOf_9 : decode cX1_textOf 9 = .ok (.istore_n 2, 1) := dec_61 (gB drcX1_textOf_0 9 rfl rfl)
theorem dX1_textOf_10 : decode cX1_textOf 10 = .ok (.iload_n 2, 1) := dec_28 (gB drcX1_textOf_0 10 rfl rfl)
theorem dX1_textOf_11 : decode cX1_textOf 11 = .ok (.aload_n 0, 1) := dec_42 (gB drcX1_textOf_0 11 rfl rfl)
theorem dX1_textOf_12 : decode cX1_textOf 12 = .ok (.getfield 12, 3) := e_180 (x := 0) (y := 12) drcX1_textOf_0 12 rfl rfl
theorem dX1_textOf_15 : decode cX1_textOf 15 = .ok (.if_icmp .ge 29, 3) := e_162 (x := 0) (y := 29) drcX1_textOf_0 15 rfl rfl
theorem dX1_textOf_18 : decode cX1_textOf 18 = .ok (.aload_n 1, 1) := dec_43 (gB drcX1_textOf_0 18 rfl rfl)
theorem dX1_textOf_19 : decode cX1_textOf 19 = .ok (.aload_n 0, 1) := dec_42 (gB drcX1_textOf_0 19 rfl rfl)
theorem dX1_textOf_20 : decode cX1_textOf 20 = .ok (.iload_n 2, 1) := dec_28 (gB drcX1_textOf_0 20 rfl rfl)
theorem dX1_textOf_21 : decode cX1_textOf 21 = .ok (.invokevirtual 18, 3) := e_182 (x := 0) (y := 18) drcX1_textOf_0 21 rfl rfl
theorem dX1_textOf_24 : decode cX1_textOf 24 = .ok (.ifCond .eq 8, 3) := e_153 (x := 0) (y := 8) drcX1_textOf_0 24 rfl rfl
theorem dX1_textOf_27 : decode cX1_textOf 27 = .ok (.bipush 98, 2) := e_16 (x := 98) drcX1_textOf_0 27 rfl rfl
theorem dX1_textOf_29 : decode cX1_textOf 29 = .ok (.goto 5, 3) := e_167 (x := 0) (y := 5) drcX1_textOf_0 29 rfl rfl
theorem dX1_textOf_32 : decode cX1_textOf 32 = .ok (.bipush 97, 2) := e_16 (x := 97) drcX1_textOf_0 32 rfl rfl
theorem dX1_textOf_34 : decode cX1_textOf 34 = .ok (.invokevirtual 22, 3) := e_182 (x := 0) (y := 22) drcX1_textOf_0 34 rfl rfl
theorem dX1_textOf_37 : decode cX1_textOf 37 = .ok (.pop, 1) := dec_87 (gB drcX1_textOf_0 37 rfl rfl)
theorem dX1_textOf_38 : decode cX1_textOf 38 = .ok (.iinc 2 1, 3) := e_132 (x := 2) (y := 1) drcX1_textOf_0 38 rfl rfl
theorem dX1_textOf_41 : decode cX1_textOf 41 = .ok (.goto (-31), 3) := e_167 (x := 255) (y := 225) drcX1_textOf_0 41 rfl rfl
theorem dX1_textOf_44 : decode cX1_textOf 44 = .ok (.aload_n 1, 1) := dec_43 (gB drcX1_textOf_0 44 rfl rfl)
theorem dX1_textOf_45 : decode cX1_textOf 45 = .ok (.invokevirtual 26, 3) := e_182 (x := 0) (y := 26) drcX1_textOf_0 45 rfl rfl
theorem dX1_textOf_48 : decode cX1_textOf 48 = .ok (.areturn, 1) := dec_176 (gB drcX1_textOf_0 48 rfl rfl)
def lkcX1_isUpOnRing_0 : List UInt8 := [0x2a, 0x1b, 0x2a, 0xb4, 0x00, 0x0c, 0xa2, 0x00, 0x07, 0x1b, 0xa7, 0x00, 0x09, 0x1b, 0x2a, 0xb4, 0x00, 0x0c, 0x64, 0xb6, 0x00, 0x12, 0xac]
def tkcX1_isUpOnRing_0 : List UInt8 := lkcX1_isUpOnRing_0 ++ []
theorem drcX1_isUpOnRing_0 : (cX1_isUpOnRing).data.toList.drop 0 = lkcX1_isUpOnRing_0 ++ [] := by decide +kernel
theorem dX1_isUpOnRing_0 : decode cX1_isUpOnRing 0 = .ok (.aload_n 0, 1) := dec_42 (gB drcX1_isUpOnRing_0 0 rfl rfl)
theorem dX1_isUpOnRing_1 : decode cX1_isUpOnRing 1 = .ok (.iload_n 1, 1) := dec_27 (gB drcX1_isUpOnRing_0 1 rfl rfl)
theorem dX1_isUpOnRing_2 : decode cX1_isUpOnRing 2 = .ok (.aload_n 0, 1) := dec_42 (gB drcX1_isUpOnRing_0 2 rfl rfl)
theorem dX1_isUpOnRing_3 : decode cX1_isUpOnRing 3 = .ok (.getfield 12, 3) := e_180 (x := 0) (y := 12) drcX1_isUpOnRing_0 3 rfl rfl
theorem dX1_isUpOnRing_6 : decode cX1_isUpOnRing 6 = .ok (.if_icmp .ge 7, 3) := e_162 (x := 0) (y := 7) drcX1_isUpOnRing_0 6 rfl rfl
theorem dX1_isUpOnRing_9 : decode cX1_isUpOnRing 9 = .ok (.iload_n 1, 1) := dec_27 (gB drcX1_isUpOnRing_0 9 rfl rfl)
theorem dX1_isUpOnRing_10 : decode cX1_isUpOnRing 10 = .ok (.goto 9, 3) := e_167 (x := 0) (y := 9) drcX1_isUpOnRing_0 10 rfl rfl
theorem dX1_isUpOnRing_13 : decode cX1_isUpOnRing 13 = .ok (.iload_n 1, 1) := dec_27 (gB drcX1_isUpOnRing_0 13 rfl rfl)
theorem dX1_isUpOnRing_14 : decode cX1_isUpOnRing 14 = .ok (.aload_n 0, 1) := dec_42 (gB drcX1_isUpOnRing_0 14 rfl rfl)
theorem dX1_isUpOnRing_15 : decode cX1_isUpOnRing 15 = .ok (.getfield 12, 3) := e_180 (x := 0) (y := 12) drcX1_isUpOnRing_0 15 rfl rfl
theorem dX1_isUpOnRing_18 : decode cX1_isUpOnRing 18 = .ok (.isub, 1) := dec_100 (gB drcX1_isUpOnRing_0 18 rfl rfl)
theorem dX1_isUpOnRing_19 : decode cX1_isUpOnRing 19 = .ok (.invokevirtual 18, 3) := e_182 (x := 0) (y := 18) drcX1_isUpOnRing_0 19 rfl rfl
theorem dX1_isUpOnRing_22 : decode cX1_isUpOnRing 22 = .ok (.ireturn, 1) := dec_172 (gB drcX1_isUpOnRing_0 22 rfl rfl)
def lkcX1_upsInPart_0 : List UInt8 := [0x03, 0x3e, 0x1b, 0x36, 0x04, 0x15, 0x04, 0x1b, 0x1c, 0x60, 0xa2, 0x00, 0x15, 0x2a, 0x15, 0x04, 0xb8, 0x00, 0x1e, 0x99, 0x00, 0x06, 0x84, 0x03, 0x01, 0x84, 0x04, 0x01, 0xa7, 0xff, 0xe9, 0x1d, 0xac]
def tkcX1_upsInPart_0 : List UInt8 := lkcX1_upsInPart_0 ++ []
theorem drcX1_upsInPart_0 : (cX1_upsInPart).data.toList.drop 0 = lkcX1_upsInPart_0 ++ [] := by decide +kernel
theorem dX1_upsInPart_0 : decode cX1_upsInPart 0 = .ok (.iconst 0, 1) := dec_3 (gB drcX1_upsInPart_0 0 rfl rfl)
theorem dX1_upsInPart_1 : decode cX1_upsInPart 1 = .ok (.istore_n 3, 1) := dec_62 (gB drcX1_upsInPart_0 1 rfl rfl)
theorem dX1_upsInPart_2 : decode cX1_upsInPart 2 = .ok (.iload_n 1, 1) := dec_27 (gB drcX1_upsInPart_0 2 rfl rfl)
theorem dX1_upsInPart_3 : decode cX1_upsInPart 3 = .ok (.istore 4, 2) := e_54 (x := 4) drcX1_upsInPart_0 3 rfl rfl
theorem dX1_upsInPart_5 : decode cX1_upsInPart 5 = .ok (.iload 4, 2) := e_21 (x := 4) drcX1_upsInPart_0 5 rfl rfl
theorem dX1_upsInPart_7 : decode cX1_upsInPart 7 = .ok (.iload_n 1, 1) := dec_27 (gB drcX1_upsInPart_0 7 rfl rfl)
theorem dX1_upsInPart_8 : decode cX1_upsInPart 8 = .ok (.iload_n 2, 1) := dec_28 (gB drcX1_upsInPart_0 8 rfl rfl)
theorem dX1_upsInPart_9 : decode cX1_upsInPart 9 = .ok (.iadd, 1) := dec_96 (gB drcX1_upsInPart_0 9 rfl rfl)
theorem dX1_upsInPart_10 : decode cX1_upsInPart 10 = .ok (.if_icmp .ge 21, 3) := e_162 (x := 0) (y := 21) drcX1_upsInPart_0 10 rfl rfl
theorem dX1_upsInPart_13 : decode cX1_upsInPart 13 = .ok (.aload_n 0, 1) := dec_42 (gB drcX1_upsInPart_0 13 rfl rfl)
theorem dX1_upsInPart_14 : decode cX1_upsInPart 14 = .ok (.iload 4, 2) := e_21 (x := 4) drcX1_upsInPart_0 14 rfl rfl
theorem dX1_upsInPart_16 : decode cX1_upsInPart 16 = .ok (.invokestatic 30, 3) := e_184 (x := 0) (y := 30) drcX1_upsInPart_0 16 rfl rfl
theorem dX1_upsInPart_19 : decode cX1_upsInPart 19 = .ok (.ifCond .eq 6, 3) := e_153 (x := 0) (y := 6) drcX1_upsInPart_0 19 rfl rfl
theorem dX1_upsInPart_22 : decode cX1_upsInPart 22 = .ok (.iinc 3 1, 3) := e_132 (x := 3) (y := 1) drcX1_upsInPart_0 22 rfl rfl
theorem dX1_upsInPart_25 : decode cX1_upsInPart 25 = .ok (.iinc 4 1, 3) := e_132 (x := 4) (y := 1) drcX1_upsInPart_0 25 rfl rfl
theorem dX1_upsInPart_28 : decode cX1_upsInPart 28 = .ok (.goto (-23), 3) := e_167 (x := 255) (y := 233) drcX1_upsInPart_0 28 rfl rfl
theorem dX1_upsInPart_31 : decode cX1_upsInPart 31 = .ok (.iload_n 3, 1) := dec_29 (gB drcX1_upsInPart_0 31 rfl rfl)
theorem dX1_upsInPart_32 : decode cX1_upsInPart 32 = .ok (.ireturn, 1) := dec_172 (gB drcX1_upsInPart_0 32 rfl rfl)
def lkcX1_upsOf_0 : List UInt8 := [0x03, 0x3c, 0x03, 0x3d, 0x1c, 0x2a, 0xb4, 0x00, 0x0c, 0xa2, 0x00, 0x14, 0x2a, 0x1c, 0xb6, 0x00, 0x12, 0x99, 0x00, 0x06, 0x84, 0x01, 0x01, 0x84, 0x02, 0x01, 0xa7, 0xff, 0xea, 0x1b, 0xac]
def tkcX1_upsOf_0 : List UInt8 := lkcX1_upsOf_0 ++ []
theorem drcX1_upsOf_0 : (cX1_upsOf).data.toList.drop 0 = lkcX1_upsOf_0 ++ [] := by decide +kernel
theorem dX1_upsOf_0 : decode cX1_upsOf 0 = .ok (.iconst 0, 1) := dec_3 (gB drcX1_upsOf_0 0 rfl rfl)
theorem dX1_upsOf_1 : decode cX1_upsOf 1 = .ok (.istore_n 1, 1) := dec_60 (gB drcX1_upsOf_0 1 rfl rfl)
theorem dX1_upsOf_2 : decode cX1_upsOf 2 = .ok (.iconst 0, 1) := dec_3 (gB drcX1_upsOf_0 2 rfl rfl)
theorem dX1_upsOf_3 : decode cX1_upsOf 3 = .ok (.istore_n 2, 1) := dec_61 (gB drcX1_upsOf_0 3 rfl rfl)
theorem dX1_upsOf_4 : decode cX1_upsOf 4 = .ok (.iload_n 2, 1) := dec_28 (gB drcX1_upsOf_0 4 rfl rfl)
theorem dX1_upsOf_5 : decode cX1_upsOf 5 = .ok (.aload_n 0, 1) := dec_42 (gB drcX1_upsOf_0 5 rfl rfl)
theorem dX1_upsOf_6 : decode cX1_upsOf 6 = .ok (.getfield 12, 3) := e_180 (x := 0) (y := 12) drcX1_upsOf_0 6 rfl rfl
theorem dX1_upsOf_9 : decode cX1_upsOf 9 = .ok (.if_icmp .ge 20, 3) := e_162 (x := 0) (y := 20) drcX1_upsOf_0 9 rfl rfl
theorem dX1_upsOf_12 : decode cX1_upsOf 12 = .ok (.aload_n 0, 1) := dec_42 (gB drcX1_upsOf_0 12 rfl rfl)
theorem dX1_upsOf_13 : decode cX1_upsOf 13 = .ok (.iload_n 2, 1) := dec_28 (gB drcX1_upsOf_0 13 rfl rfl)
theorem dX1_upsOf_14 : decode cX1_upsOf 14 = .ok (.invokevirtual 18, 3) := e_182 (x := 0) (y := 18) drcX1_upsOf_0 14 rfl rfl
theorem dX1_upsOf_17 : decode cX1_upsOf 17 = .ok (.ifCond .eq 6, 3) := e_153 (x := 0) (y := 6) drcX1_upsOf_0 17 rfl rfl
theorem dX1_upsOf_20 : decode cX1_upsOf 20 = .ok (.iinc 1 1, 3) := e_132 (x := 1) (y := 1) drcX1_upsOf_0 20 rfl rfl
theorem dX1_upsOf_23 : decode cX1_upsOf 23 = .ok (.iinc 2 1, 3) := e_132 (x := 2) (y := 1) drcX1_upsOf_0 23 rfl rfl
theorem dX1_upsOf_26 : decode cX1_upsOf 26 = .ok (.goto (-22), 3) := e_167 (x := 255) (y := 234) drcX1_upsOf_0 26 rfl rfl
theorem dX1_upsOf_29 : decode cX1_upsOf 29 = .ok (.iload_n 1, 1) := dec_27 (gB drcX1_upsOf_0 29 rfl rfl)
theorem dX1_upsOf_30 : decode cX1_upsOf 30 = .ok (.ireturn, 1) := dec_172 (gB drcX1_upsOf_0 30 rfl rfl)
def lkcX1_standsAt_0 : List UInt8 := [0x1b, 0x2c, 0xb4, 0x00, 0x0c, 0x60, 0x2a, 0xb4, 0x00, 0x0c, 0xa4, 0x00, 0x05, 0x03, 0xac, 0x03, 0x3e, 0x1d, 0x2c, 0xb4, 0x00, 0x0c, 0xa2, 0x00, 0x1a, 0x2a, 0x1b, 0x1d, 0x60, 0xb6, 0x00, 0x12, 0x2c, 0x1d, 0xb6, 0x00, 0x12, 0x9f, 0x00, 0x05, 0x03, 0xac, 0x84, 0x03, 0x01, 0xa7, 0xff, 0xe4, 0x04, 0xac]
def tkcX1_standsAt_0 : List UInt8 := lkcX1_standsAt_0 ++ []
theorem drcX1_standsAt_0 : (cX1_standsAt).data.toList.drop 0 = lkcX1_standsAt_0 ++ [] := by decide +kernel
theorem dX1_standsAt_0 : decode cX1_standsAt 0 = .ok (.iload_n 1, 1) := dec_27 (gB drcX1_standsAt_0 0 rfl rfl)
theorem dX1_standsAt_1 : decode cX1_standsAt 1 = .ok (.aload_n 2, 1) := dec_44 (gB drcX1_standsAt_0 1 rfl rfl)
theorem dX1_standsAt_2 : decode cX1_standsAt 2 = .ok (.getfield 12, 3) := e_180 (x := 0) (y := 12) drcX1_standsAt_0 2 rfl rfl
theorem dX1_standsAt_5 : decode cX1_standsAt 5 = .ok (.iadd, 1) := dec_96 (gB drcX1_standsAt_0 5 rfl rfl)
theorem dX1_standsAt_6 : decode cX1_standsAt 6 = .ok (.aload_n 0, 1) := dec_42 (gB drcX1_standsAt_0 6 rfl rfl)
theorem dX1_standsAt_7 : decode cX1_standsAt 7 = .ok (.getfield 12, 3) := e_180 (x := 0) (y := 12) drcX1_standsAt_0 7 rfl rfl
theorem dX1_standsAt_10 : decode cX1_standsAt 10 = .ok (.if_icmp .le 5, 3) := e_164 (x := 0) (y := 5) drcX1_standsAt_0 10 rfl rfl
theorem dX1_standsAt_13 : decode cX1_standsAt 13 = .ok (.iconst 0, 1) := dec_3 (gB drcX1_standsAt_0 13 rfl rfl)
theorem dX1_standsAt_14 : decode cX1_standsAt 14 = .ok (.ireturn, 1) := dec_172 (gB drcX1_standsAt_0 14 rfl rfl)
theorem dX1_standsAt_15 : decode cX1_standsAt 15 = .ok (.iconst 0, 1) := dec_3 (gB drcX1_standsAt_0 15 rfl rfl)
theorem dX1_standsAt_16 : decode cX1_standsAt 16 = .ok (.istore_n 3, 1) := dec_62 (gB drcX1_standsAt_0 16 rfl rfl)
theorem dX1_standsAt_17 : decode cX1_standsAt 17 = .ok (.iload_n 3, 1) := dec_29 (gB drcX1_standsAt_0 17 rfl rfl)
theorem dX1_standsAt_18 : decode cX1_standsAt 18 = .ok (.aload_n 2, 1) := dec_44 (gB drcX1_standsAt_0 18 rfl rfl)
theorem dX1_standsAt_19 : decode cX1_standsAt 19 = .ok (.getfield 12, 3) := e_180 (x := 0) (y := 12) drcX1_standsAt_0 19 rfl rfl
theorem dX1_standsAt_22 : decode cX1_standsAt 22 = .ok (.if_icmp .ge 26, 3) := e_162 (x := 0) (y := 26) drcX1_standsAt_0 22 rfl rfl
theorem dX1_standsAt_25 : decode cX1_standsAt 25 = .ok (.aload_n 0, 1) := dec_42 (gB drcX1_standsAt_0 25 rfl rfl)
theorem dX1_standsAt_26 : decode cX1_standsAt 26 = .ok (.iload_n 1, 1) := dec_27 (gB drcX1_standsAt_0 26 rfl rfl)
theorem dX1_standsAt_27 : decode cX1_standsAt 27 = .ok (.iload_n 3, 1) := dec_29 (gB drcX1_standsAt_0 27 rfl rfl)
theorem dX1_standsAt_28 : decode cX1_standsAt 28 = .ok (.iadd, 1) := dec_96 (gB drcX1_standsAt_0 28 rfl rfl)
theorem dX1_standsAt_29 : decode cX1_standsAt 29 = .ok (.invokevirtual 18, 3) := e_182 (x := 0) (y := 18) drcX1_standsAt_0 29 rfl rfl
theorem dX1_standsAt_32 : decode cX1_standsAt 32 = .ok (.aload_n 2, 1) := dec_44 (gB drcX1_standsAt_0 32 rfl rfl)
theorem dX1_standsAt_33 : decode cX1_standsAt 33 = .ok (.iload_n 3, 1) := dec_29 (gB drcX1_standsAt_0 33 rfl rfl)
theorem dX1_standsAt_34 : decode cX1_standsAt 34 = .ok (.invokevirtual 18, 3) := e_182 (x := 0) (y := 18) drcX1_standsAt_0 34 rfl rfl
theorem dX1_standsAt_37 : decode cX1_standsAt 37 = .ok (.if_icmp .eq 5, 3) := e_159 (x := 0) (y := 5) drcX1_standsAt_0 37 rfl rfl
theorem dX1_standsAt_40 : decode cX1_standsAt 40 = .ok (.iconst 0, 1) := dec_3 (gB drcX1_standsAt_0 40 rfl rfl)
theorem dX1_standsAt_41 : decode cX1_standsAt 41 = .ok (.ireturn, 1) := dec_172 (gB drcX1_standsAt_0 41 rfl rfl)
theorem dX1_standsAt_42 : decode cX1_standsAt 42 = .ok (.iinc 3 1, 3) := e_132 (x := 3) (y := 1) drcX1_standsAt_0 42 rfl rfl
theorem dX1_standsAt_45 : decode cX1_standsAt 45 = .ok (.goto (-28), 3) := e_167 (x := 255) (y := 228) drcX1_standsAt_0 45 rfl rfl
theorem dX1_standsAt_48 : decode cX1_standsAt 48 = .ok (.iconst 1, 1) := dec_4 (gB drcX1_standsAt_0 48 rfl rfl)
theorem dX1_standsAt_49 : decode cX1_standsAt 49 = .ok (.ireturn, 1) := dec_172 (gB drcX1_standsAt_0 49 rfl rfl)
def lkcX1_orderOf_0 : List UInt8 := [0x2a, 0xb4, 0x00, 0x0c, 0x2b, 0xb4, 0x00, 0x0c, 0xb8, 0x00, 0x24, 0x3d, 0x03, 0x3e, 0x1d, 0x1c, 0xa2, 0x00, 0x24, 0x2a, 0x1d, 0xb6, 0x00, 0x12, 0x2b, 0x1d, 0xb6, 0x00, 0x12, 0x9f, 0x00, 0x11, 0x2b, 0x1d, 0xb6, 0x00, 0x12, 0x99, 0x00, 0x07, 0x02, 0xa7, 0x00, 0x04, 0x04, 0xac, 0x84, 0x03, 0x01, 0xa7, 0xff, 0xdd, 0x2a, 0xb4, 0x00, 0x0c, 0x2b, 0xb4, 0x00, 0x0c, 0xb8, 0x00, 0x2a, 0xac]
def tkcX1_orderOf_0 : List UInt8 := lkcX1_orderOf_0 ++ []
theorem drcX1_orderOf_0 : (cX1_orderOf).data.toList.drop 0 = lkcX1_orderOf_0 ++ [] := by decide +kernel
theorem dX1_orderOf_0 : decode cX1_orderOf 0 = .ok (.aload_n 0, 1) := dec_42 (gB drcX1_orderOf_0 0 rfl rfl)
theorem dX1_orderOf_1 : decode cX1_orderOf 1 = .ok (.getfield 12, 3) := e_180 (x := 0) (y := 12) drcX1_orderOf_0 1 rfl rfl
theorem dX1_orderOf_4 : decode cX1_orderOf 4 = .ok (.aload_n 1, 1) := dec_43 (gB drcX1_orderOf_0 4 rfl rfl)
theorem dX1_orderOf_5 : decode cX1_orderOf 5 = .ok (.getfield 12, 3) := e_180 (x := 0) (y := 12) drcX1_orderOf_0 5 rfl rfl
theorem dX1_orderOf_8 : decode cX1_orderOf 8 = .ok (.invokestatic 36, 3) := e_184 (x := 0) (y := 36) drcX1_orderOf_0 8 rfl rfl
theorem dX1_orderOf_11 : decode cX1_orderOf 11 = .ok (.istore_n 2, 1) := dec_61 (gB drcX1_orderOf_0 11 rfl rfl)
theorem dX1_orderOf_12 : decode cX1_orderOf 12 = .ok (.iconst 0, 1) := dec_3 (gB drcX1_orderOf_0 12 rfl rfl)
theorem dX1_orderOf_13 : decode cX1_orderOf 13 = .ok (.istore_n 3, 1) := dec_62 (gB drcX1_orderOf_0 13 rfl rfl)
theorem dX1_orderOf_14 : decode cX1_orderOf 14 = .ok (.iload_n 3, 1) := dec_29 (gB drcX1_orderOf_0 14 rfl rfl)
theorem dX1_orderOf_15 : decode cX1_orderOf 15 = .ok (.iload_n 2, 1) := dec_28 (gB drcX1_orderOf_0 15 rfl rfl)
theorem dX1_orderOf_16 : decode cX1_orderOf 16 = .ok (.if_icmp .ge 36, 3) := e_162 (x := 0) (y := 36) drcX1_orderOf_0 16 rfl rfl
theorem dX1_orderOf_19 : decode cX1_orderOf 19 = .ok (.aload_n 0, 1) := dec_42 (gB drcX1_orderOf_0 19 rfl rfl)
theorem dX1_orderOf_20 : decode cX1_orderOf 20 = .ok (.iload_n 3, 1) := dec_29 (gB drcX1_orderOf_0 20 rfl rfl)
theorem dX1_orderOf_21 : decode cX1_orderOf 21 = .ok (.invokevirtual 18, 3) := e_182 (x := 0) (y := 18) drcX1_orderOf_0 21 rfl rfl
theorem dX1_orderOf_24 : decode cX1_orderOf 24 = .ok (.aload_n 1, 1) := dec_43 (gB drcX1_orderOf_0 24 rfl rfl)
theorem dX1_orderOf_25 : decode cX1_orderOf 25 = .ok (.iload_n 3, 1) := dec_29 (gB drcX1_orderOf_0 25 rfl rfl)
theorem dX1_orderOf_26 : decode cX1_orderOf 26 = .ok (.invokevirtual 18, 3) := e_182 (x := 0) (y := 18) drcX1_orderOf_0 26 rfl rfl
theorem dX1_orderOf_29 : decode cX1_orderOf 29 = .ok (.if_icmp .eq 17, 3) := e_159 (x := 0) (y := 17) drcX1_orderOf_0 29 rfl rfl
theorem dX1_orderOf_32 : decode cX1_orderOf 32 = .ok (.aload_n 1, 1) := dec_43 (gB drcX1_orderOf_0 32 rfl rfl)
theorem dX1_orderOf_33 : decode cX1_orderOf 33 = .ok (.iload_n 3, 1) := dec_29 (gB drcX1_orderOf_0 33 rfl rfl)
theorem dX1_orderOf_34 : decode cX1_orderOf 34 = .ok (.invokevirtual 18, 3) := e_182 (x := 0) (y := 18) drcX1_orderOf_0 34 rfl rfl
theorem dX1_orderOf_37 : decode cX1_orderOf 37 = .ok (.ifCond .eq 7, 3) := e_153 (x := 0) (y := 7) drcX1_orderOf_0 37 rfl rfl
theorem dX1_orderOf_40 : decode cX1_orderOf 40 = .ok (.iconst (-1), 1) := dec_2 (gB drcX1_orderOf_0 40 rfl rfl)
theorem dX1_orderOf_41 : decode cX1_orderOf 41 = .ok (.goto 4, 3) := e_167 (x := 0) (y := 4) drcX1_orderOf_0 41 rfl rfl
theorem dX1_orderOf_44 : decode cX1_orderOf 44 = .ok (.iconst 1, 1) := dec_4 (gB drcX1_orderOf_0 44 rfl rfl)
theorem dX1_orderOf_45 : decode cX1_orderOf 45 = .ok (.ireturn, 1) := dec_172 (gB drcX1_orderOf_0 45 rfl rfl)
theorem dX1_orderOf_46 : decode cX1_orderOf 46 = .ok (.iinc 3 1, 3) := e_132 (x := 3) (y := 1) drcX1_orderOf_0 46 rfl rfl
theorem dX1_orderOf_49 : decode cX1_orderOf 49 = .ok (.goto (-35), 3) := e_167 (x := 255) (y := 221) drcX1_orderOf_0 49 rfl rfl
theorem dX1_orderOf_52 : decode cX1_orderOf 52 = .ok (.aload_n 0, 1) := dec_42 (gB drcX1_orderOf_0 52 rfl rfl)
theorem dX1_orderOf_53 : decode cX1_orderOf 53 = .ok (.getfield 12, 3) := e_180 (x := 0) (y := 12) drcX1_orderOf_0 53 rfl rfl
theorem dX1_orderOf_56 : decode cX1_orderOf 56 = .ok (.aload_n 1, 1) := dec_43 (gB drcX1_orderOf_0 56 rfl rfl)
theorem dX1_orderOf_57 : decode cX1_orderOf 57 = .ok (.getfield 12, 3) := e_180 (x := 0) (y := 12) drcX1_orderOf_0 57 rfl rfl
theorem dX1_orderOf_60 : decode cX1_orderOf 60 = .ok (.invokestatic 42, 3) := e_184 (x := 0) (y := 42) drcX1_orderOf_0 60 rfl rfl
theorem dX1_orderOf_63 : decode cX1_orderOf 63 = .ok (.ireturn, 1) := dec_172 (gB drcX1_orderOf_0 63 rfl rfl)
def lkcX1_ringOrder_0 : List UInt8 := [0x03, 0x36, 0x04, 0x15, 0x04, 0x1d, 0xa2, 0x00, 0x2b, 0x2a, 0x1b, 0x15, 0x04, 0x60, 0xb8, 0x00, 0x1e, 0x36, 0x05, 0x15, 0x05, 0x2a, 0x1c, 0x15, 0x04, 0x60, 0xb8, 0x00, 0x1e, 0x9f, 0x00, 0x0e, 0x15, 0x05, 0x99, 0x00, 0x07, 0x04, 0xa7, 0x00, 0x04, 0x02, 0xac, 0x84, 0x04, 0x01, 0xa7, 0xff, 0xd5, 0x03, 0xac]
def tkcX1_ringOrder_0 : List UInt8 := lkcX1_ringOrder_0 ++ []
theorem drcX1_ringOrder_0 : (cX1_ringOrder).data.toList.drop 0 = lkcX1_ringOrder_0 ++ [] := by decide +kernel
theorem dX1_ringOrder_0 : decode cX1_ringOrder 0 = .ok (.iconst 0, 1) := dec_3 (gB drcX1_ringOrder_0 0 rfl rfl)
theorem dX1_ringOrder_1 : decode cX1_ringOrder 1 = .ok (.istore 4, 2) := e_54 (x := 4) drcX1_ringOrder_0 1 rfl rfl
theorem dX1_ringOrder_3 : decode cX1_ringOrder 3 = .ok (.iload 4, 2) := e_21 (x := 4) drcX1_ringOrder_0 3 rfl rfl
theorem dX1_ringOrder_5 : decode cX1_ringOrder 5 = .ok (.iload_n 3, 1) := dec_29 (gB drcX1_ringOrder_0 5 rfl rfl)
theorem dX1_ringOrder_6 : decode cX1_ringOrder 6 = .ok (.if_icmp .ge 43, 3) := e_162 (x := 0) (y := 43) drcX1_ringOrder_0 6 rfl rfl
theorem dX1_ringOrder_9 : decode cX1_ringOrder 9 = .ok (.aload_n 0, 1) := dec_42 (gB drcX1_ringOrder_0 9 rfl rfl)
theorem dX1_ringOrder_10 : decode cX1_ringOrder 10 = .ok (.iload_n 1, 1) := dec_27 (gB drcX1_ringOrder_0 10 rfl rfl)
theorem dX1_ringOrder_11 : decode cX1_ringOrder 11 = .ok (.iload 4, 2) := e_21 (x := 4) drcX1_ringOrder_0 11 rfl rfl
theorem dX1_ringOrder_13 : decode cX1_ringOrder 13 = .ok (.iadd, 1) := dec_96 (gB drcX1_ringOrder_0 13 rfl rfl)
theorem dX1_ringOrder_14 : decode cX1_ringOrder 14 = .ok (.invokestatic 30, 3) := e_184 (x := 0) (y := 30) drcX1_ringOrder_0 14 rfl rfl
theorem dX1_ringOrder_17 : decode cX1_ringOrder 17 = .ok (.istore 5, 2) := e_54 (x := 5) drcX1_ringOrder_0 17 rfl rfl
theorem dX1_ringOrder_19 : decode cX1_ringOrder 19 = .ok (.iload 5, 2) := e_21 (x := 5) drcX1_ringOrder_0 19 rfl rfl
theorem dX1_ringOrder_21 : decode cX1_ringOrder 21 = .ok (.aload_n 0, 1) := dec_42 (gB drcX1_ringOrder_0 21 rfl rfl)
theorem dX1_ringOrder_22 : decode cX1_ringOrder 22 = .ok (.iload_n 2, 1) := dec_28 (gB drcX1_ringOrder_0 22 rfl rfl)
theorem dX1_ringOrder_23 : decode cX1_ringOrder 23 = .ok (.iload 4, 2) := e_21 (x := 4) drcX1_ringOrder_0 23 rfl rfl
theorem dX1_ringOrder_25 : decode cX1_ringOrder 25 = .ok (.iadd, 1) := dec_96 (gB drcX1_ringOrder_0 25 rfl rfl)
theorem dX1_ringOrder_26 : decode cX1_ringOrder 26 = .ok (.invokestatic 30, 3) := e_184 (x := 0) (y := 30) drcX1_ringOrder_0 26 rfl rfl
theorem dX1_ringOrder_29 : decode cX1_ringOrder 29 = .ok (.if_icmp .eq 14, 3) := e_159 (x := 0) (y := 14) drcX1_ringOrder_0 29 rfl rfl
theorem dX1_ringOrder_32 : decode cX1_ringOrder 32 = .ok (.iload 5, 2) := e_21 (x := 5) drcX1_ringOrder_0 32 rfl rfl
theorem dX1_ringOrder_34 : decode cX1_ringOrder 34 = .ok (.ifCond .eq 7, 3) := e_153 (x := 0) (y := 7) drcX1_ringOrder_0 34 rfl rfl
theorem dX1_ringOrder_37 : decode cX1_ringOrder 37 = .ok (.iconst 1, 1) := dec_4 (gB drcX1_ringOrder_0 37 rfl rfl)
theorem dX1_ringOrder_38 : decode cX1_ringOrder 38 = .ok (.goto 4, 3) := e_167 (x := 0) (y := 4) drcX1_ringOrder_0 38 rfl rfl
theorem dX1_ringOrder_41 : decode cX1_ringOrder 41 = .ok (.iconst (-1), 1) := dec_2 (gB drcX1_ringOrder_0 41 rfl rfl)
theorem dX1_ringOrder_42 : decode cX1_ringOrder 42 = .ok (.ireturn, 1) := dec_172 (gB drcX1_ringOrder_0 42 rfl rfl)
theorem dX1_ringOrder_43 : decode cX1_ringOrder 43 = .ok (.iinc 4 1, 3) := e_132 (x := 4) (y := 1) drcX1_ringOrder_0 43 rfl rfl
theorem dX1_ringOrder_46 : decode cX1_ringOrder 46 = .ok (.goto (-43), 3) := e_167 (x := 255) (y := 213) drcX1_ringOrder_0 46 rfl rfl
theorem dX1_ringOrder_49 : decode cX1_ringOrder 49 = .ok (.iconst 0, 1) := dec_3 (gB drcX1_ringOrder_0 49 rfl rfl)
theorem dX1_ringOrder_50 : decode cX1_ringOrder 50 = .ok (.ireturn, 1) := dec_172 (gB drcX1_ringOrder_0 50 rfl rfl)
def lkcX1_isMirroredPart_0 : List UInt8 := [0x03, 0x3e, 0x1d, 0x1c, 0x05, 0x6c, 0xa2, 0x00, 0x20, 0x2a, 0x1b, 0x1d, 0x60, 0xb6, 0x00, 0x12, 0x2a, 0x1b, 0x1c, 0x60, 0x04, 0x64, 0x1d, 0x64, 0xb6, 0x00, 0x12, 0x9f, 0x00, 0x05, 0x03, 0xac, 0x84, 0x03, 0x01, 0xa7, 0xff, 0xdf, 0x04, 0xac]
def tkcX1_isMirroredPart_0 : List UInt8 := lkcX1_isMirroredPart_0 ++ []
theorem drcX1_isMirroredPart_0 : (cX1_isMirroredPart).data.toList.drop 0 = lkcX1_isMirroredPart_0 ++ [] := by decide +kernel
theorem dX1_isMirroredPart_0 : decode cX1_isMirroredPart 0 = .ok (.iconst 0, 1) := dec_3 (gB drcX1_isMirroredPart_0 0 rfl rfl)
theorem dX1_isMirroredPart_1 : decode cX1_isMirroredPart 1 = .ok (.istore_n 3, 1) := dec_62 (gB drcX1_isMirroredPart_0 1 rfl rfl)
theorem dX1_isMirroredPart_2 : decode cX1_isMirroredPart 2 = .ok (.iload_n 3, 1) := dec_29 (gB drcX1_isMirroredPart_0 2 rfl rfl)
theorem dX1_isMirroredPart_3 : decode cX1_isMirroredPart 3 = .ok (.iload_n 2, 1) := dec_28 (gB drcX1_isMirroredPart_0 3 rfl rfl)
theorem dX1_isMirroredPart_4 : decode cX1_isMirroredPart 4 = .ok (.iconst 2, 1) := dec_5 (gB drcX1_isMirroredPart_0 4 rfl rfl)
theorem dX1_isMirroredPart_5 : decode cX1_isMirroredPart 5 = .ok (.idiv, 1) := dec_108 (gB drcX1_isMirroredPart_0 5 rfl rfl)
theorem dX1_isMirroredPart_6 : decode cX1_isMirroredPart 6 = .ok (.if_icmp .ge 32, 3) := e_162 (x := 0) (y := 32) drcX1_isMirroredPart_0 6 rfl rfl
theorem dX1_isMirroredPart_9 : decode cX1_isMirroredPart 9 = .ok (.aload_n 0, 1) := dec_42 (gB drcX1_isMirroredPart_0 9 rfl rfl)
theorem dX1_isMirroredPart_10 : decode cX1_isMirroredPart 10 = .ok (.iload_n 1, 1) := dec_27 (gB drcX1_isMirroredPart_0 10 rfl rfl)
theorem dX1_isMirroredPart_11 : decode cX1_isMirroredPart 11 = .ok (.iload_n 3, 1) := dec_29 (gB drcX1_isMirroredPart_0 11 rfl rfl)
theorem dX1_isMirroredPart_12 : decode cX1_isMirroredPart 12 = .ok (.iadd, 1) := dec_96 (gB drcX1_isMirroredPart_0 12 rfl rfl)
theorem dX1_isMirroredPart_13 : decode cX1_isMirroredPart 13 = .ok (.invokevirtual 18, 3) := e_182 (x := 0) (y := 18) drcX1_isMirroredPart_0 13 rfl rfl
theorem dX1_isMirroredPart_16 : decode cX1_isMirroredPart 16 = .ok (.aload_n 0, 1) := dec_42 (gB drcX1_isMirroredPart_0 16 rfl rfl)
theorem dX1_isMirroredPart_17 : decode cX1_isMirroredPart 17 = .ok (.iload_n 1, 1) := dec_27 (gB drcX1_isMirroredPart_0 17 rfl rfl)
theorem dX1_isMirroredPart_18 : decode cX1_isMirroredPart 18 = .ok (.iload_n 2, 1) := dec_28 (gB drcX1_isMirroredPart_0 18 rfl rfl)
theorem dX1_isMirroredPart_19 : decode cX1_isMirroredPart 19 = .ok (.iadd, 1) := dec_96 (gB drcX1_isMirroredPart_0 19 rfl rfl)
theorem dX1_isMirroredPart_20 : decode cX1_isMirroredPart 20 = .ok (.iconst 1, 1) := dec_4 (gB drcX1_isMirroredPart_0 20 rfl rfl)
theorem dX1_isMirroredPart_21 : decode cX1_isMirroredPart 21 = .ok (.isub, 1) := dec_100 (gB drcX1_isMirroredPart_0 21 rfl rfl)
theorem dX1_isMirroredPart_22 : decode cX1_isMirroredPart 22 = .ok (.iload_n 3, 1) := dec_29 (gB drcX1_isMirroredPart_0 22 rfl rfl)
theorem dX1_isMirroredPart_23 : decode cX1_isMirroredPart 23 = .ok (.isub, 1) := dec_100 (gB drcX1_isMirroredPart_0 23 rfl rfl)
theorem dX1_isMirroredPart_24 : decode cX1_isMirroredPart 24 = .ok (.invokevirtual 18, 3) := e_182 (x := 0) (y := 18) drcX1_isMirroredPart_0 24 rfl rfl
theorem dX1_isMirroredPart_27 : decode cX1_isMirroredPart 27 = .ok (.if_icmp .eq 5, 3) := e_159 (x := 0) (y := 5) drcX1_isMirroredPart_0 27 rfl rfl
theorem dX1_isMirroredPart_30 : decode cX1_isMirroredPart 30 = .ok (.iconst 0, 1) := dec_3 (gB drcX1_isMirroredPart_0 30 rfl rfl)
theorem dX1_isMirroredPart_31 : decode cX1_isMirroredPart 31 = .ok (.ireturn, 1) := dec_172 (gB drcX1_isMirroredPart_0 31 rfl rfl)
theorem dX1_isMirroredPart_32 : decode cX1_isMirroredPart 32 = .ok (.iinc 3 1, 3) := e_132 (x := 3) (y := 1) drcX1_isMirroredPart_0 32 rfl rfl
theorem dX1_isMirroredPart_35 : decode cX1_isMirroredPart 35 = .ok (.goto (-33), 3) := e_167 (x := 255) (y := 223) drcX1_isMirroredPart_0 35 rfl rfl
theorem dX1_isMirroredPart_38 : decode cX1_isMirroredPart 38 = .ok (.iconst 1, 1) := dec_4 (gB drcX1_isMirroredPart_0 38 rfl rfl)
theorem dX1_isMirroredPart_39 : decode cX1_isMirroredPart 39 = .ok (.ireturn, 1) := dec_172 (gB drcX1_isMirroredPart_0 39 rfl rfl)
def lkcX1_beginnings_0 : List UInt8 := [0x1c, 0x99, 0x00, 0x0e, 0x2a, 0xb4, 0x00, 0x0c, 0x04, 0xb8, 0x00, 0x2f, 0xa7, 0x00, 0x0b, 0x2a, 0xb4, 0x00, 0x0c, 0x1b, 0x64, 0x04, 0x60, 0xac]
def tkcX1_beginnings_0 : List UInt8 := lkcX1_beginnings_0 ++ []
theorem drcX1_beginnings_0 : (cX1_beginnings).data.toList.drop 0 = lkcX1_beginnings_0 ++ [] := by decide +kernel
theorem dX1_beginnings_0 : decode cX1_beginnings 0 = .ok (.iload_n 2, 1) := dec_28 (gB drcX1_beginnings_0 0 rfl rfl)
theorem dX1_beginnings_1 : decode cX1_beginnings 1 = .ok (.ifCond .eq 14, 3) := e_153 (x := 0) (y := 14) drcX1_beginnings_0 1 rfl rfl
theorem dX1_beginnings_4 : decode cX1_beginnings 4 = .ok (.aload_n 0, 1) := dec_42 (gB drcX1_beginnings_0 4 rfl rfl)
theorem dX1_beginnings_5 : decode cX1_beginnings 5 = .ok (.getfield 12, 3) := e_180 (x := 0) (y := 12) drcX1_beginnings_0 5 rfl rfl
theorem dX1_beginnings_8 : decode cX1_beginnings 8 = .ok (.iconst 1, 1) := dec_4 (gB drcX1_beginnings_0 8 rfl rfl)
theorem dX1_beginnings_9 : decode cX1_beginnings 9 = .ok (.invokestatic 47, 3) := e_184 (x := 0) (y := 47) drcX1_beginnings_0 9 rfl rfl
theorem dX1_beginnings_12 : decode cX1_beginnings 12 = .ok (.goto 11, 3) := e_167 (x := 0) (y := 11) drcX1_beginnings_0 12 rfl rfl
theorem dX1_beginnings_15 : decode cX1_beginnings 15 = .ok (.aload_n 0, 1) := dec_42 (gB drcX1_beginnings_0 15 rfl rfl)
theorem dX1_beginnings_16 : decode cX1_beginnings 16 = .ok (.getfield 12, 3) := e_180 (x := 0) (y := 12) drcX1_beginnings_0 16 rfl rfl
theorem dX1_beginnings_19 : decode cX1_beginnings 19 = .ok (.iload_n 1, 1) := dec_27 (gB drcX1_beginnings_0 19 rfl rfl)
theorem dX1_beginnings_20 : decode cX1_beginnings 20 = .ok (.isub, 1) := dec_100 (gB drcX1_beginnings_0 20 rfl rfl)
theorem dX1_beginnings_21 : decode cX1_beginnings 21 = .ok (.iconst 1, 1) := dec_4 (gB drcX1_beginnings_0 21 rfl rfl)
theorem dX1_beginnings_22 : decode cX1_beginnings 22 = .ok (.iadd, 1) := dec_96 (gB drcX1_beginnings_0 22 rfl rfl)
theorem dX1_beginnings_23 : decode cX1_beginnings 23 = .ok (.ireturn, 1) := dec_172 (gB drcX1_beginnings_0 23 rfl rfl)
def lkcX1_spreadOf_0 : List UInt8 := [0x03, 0x3e, 0x1b, 0x36, 0x04, 0x2a, 0x1b, 0x1c, 0xb8, 0x00, 0x32, 0x36, 0x05, 0x03, 0x36, 0x06, 0x15, 0x06, 0x15, 0x05, 0xa2, 0x00, 0x22, 0x2a, 0x15, 0x06, 0x1b, 0xb8, 0x00, 0x36, 0x36, 0x07, 0x1d, 0x15, 0x07, 0xb8, 0x00, 0x2f, 0x3e, 0x15, 0x04, 0x15, 0x07, 0xb8, 0x00, 0x24, 0x36, 0x04, 0x84, 0x06, 0x01, 0xa7, 0xff, 0xdd, 0x1d, 0x15, 0x04, 0x64, 0xac]
def tkcX1_spreadOf_0 : List UInt8 := lkcX1_spreadOf_0 ++ []
theorem drcX1_spreadOf_0 : (cX1_spreadOf).data.toList.drop 0 = lkcX1_spreadOf_0 ++ [] := by decide +kernel
theorem dX1_spreadOf_0 : decode cX1_spreadOf 0 = .ok (.iconst 0, 1) := dec_3 (gB drcX1_spreadOf_0 0 rfl rfl)
theorem dX1_spreadOf_1 : decode cX1_spreadOf 1 = .ok (.istore_n 3, 1) := dec_62 (gB drcX1_spreadOf_0 1 rfl rfl)
theorem dX1_spreadOf_2 : decode cX1_spreadOf 2 = .ok (.iload_n 1, 1) := dec_27 (gB drcX1_spreadOf_0 2 rfl rfl)
theorem dX1_spreadOf_3 : decode cX1_spreadOf 3 = .ok (.istore 4, 2) := e_54 (x := 4) drcX1_spreadOf_0 3 rfl rfl
theorem dX1_spreadOf_5 : decode cX1_spreadOf 5 = .ok (.aload_n 0, 1) := dec_42 (gB drcX1_spreadOf_0 5 rfl rfl)
theorem dX1_spreadOf_6 : decode cX1_spreadOf 6 = .ok (.iload_n 1, 1) := dec_27 (gB drcX1_spreadOf_0 6 rfl rfl)
theorem dX1_spreadOf_7 : decode cX1_spreadOf 7 = .ok (.iload_n 2, 1) := dec_28 (gB drcX1_spreadOf_0 7 rfl rfl)
theorem dX1_spreadOf_8 : decode cX1_spreadOf 8 = .ok (.invokestatic 50, 3) := e_184 (x := 0) (y := 50) drcX1_spreadOf_0 8 rfl rfl
theorem dX1_spreadOf_11 : decode cX1_spreadOf 11 = .ok (.istore 5, 2) := e_54 (x := 5) drcX1_spreadOf_0 11 rfl rfl
theorem dX1_spreadOf_13 : decode cX1_spreadOf 13 = .ok (.iconst 0, 1) := dec_3 (gB drcX1_spreadOf_0 13 rfl rfl)
theorem dX1_spreadOf_14 : decode cX1_spreadOf 14 = .ok (.istore 6, 2) := e_54 (x := 6) drcX1_spreadOf_0 14 rfl rfl
theorem dX1_spreadOf_16 : decode cX1_spreadOf 16 = .ok (.iload 6, 2) := e_21 (x := 6) drcX1_spreadOf_0 16 rfl rfl
theorem dX1_spreadOf_18 : decode cX1_spreadOf 18 = .ok (.iload 5, 2) := e_21 (x := 5) drcX1_spreadOf_0 18 rfl rfl
theorem dX1_spreadOf_20 : decode cX1_spreadOf 20 = .ok (.if_icmp .ge 34, 3) := e_162 (x := 0) (y := 34) drcX1_spreadOf_0 20 rfl rfl
theorem dX1_spreadOf_23 : decode cX1_spreadOf 23 = .ok (.aload_n 0, 1) := dec_42 (gB drcX1_spreadOf_0 23 rfl rfl)
theorem dX1_spreadOf_24 : decode cX1_spreadOf 24 = .ok (.iload 6, 2) := e_21 (x := 6) drcX1_spreadOf_0 24 rfl rfl
theorem dX1_spreadOf_26 : decode cX1_spreadOf 26 = .ok (.iload_n 1, 1) := dec_27 (gB drcX1_spreadOf_0 26 rfl rfl)
theorem dX1_spreadOf_27 : decode cX1_spreadOf 27 = .ok (.invokestatic 54, 3) := e_184 (x := 0) (y := 54) drcX1_spreadOf_0 27 rfl rfl
theorem dX1_spreadOf_30 : decode cX1_spreadOf 30 = .ok (.istore 7, 2) := e_54 (x := 7) drcX1_spreadOf_0 30 rfl rfl
theorem dX1_spreadOf_32 : decode cX1_spreadOf 32 = .ok (.iload_n 3, 1) := dec_29 (gB drcX1_spreadOf_0 32 rfl rfl)
theorem dX1_spreadOf_33 : decode cX1_spreadOf 33 = .ok (.iload 7, 2) := e_21 (x := 7) drcX1_spreadOf_0 33 rfl rfl
theorem dX1_spreadOf_35 : decode cX1_spreadOf 35 = .ok (.invokestatic 47, 3) := e_184 (x := 0) (y := 47) drcX1_spreadOf_0 35 rfl rfl
theorem dX1_spreadOf_38 : decode cX1_spreadOf 38 = .ok (.istore_n 3, 1) := dec_62 (gB drcX1_spreadOf_0 38 rfl rfl)
theorem dX1_spreadOf_39 : decode cX1_spreadOf 39 = .ok (.iload 4, 2) := e_21 (x := 4) drcX1_spreadOf_0 39 rfl rfl
theorem dX1_spreadOf_41 : decode cX1_spreadOf 41 = .ok (.iload 7, 2) := e_21 (x := 7) drcX1_spreadOf_0 41 rfl rfl
theorem dX1_spreadOf_43 : decode cX1_spreadOf 43 = .ok (.invokestatic 36, 3) := e_184 (x := 0) (y := 36) drcX1_spreadOf_0 43 rfl rfl
theorem dX1_spreadOf_46 : decode cX1_spreadOf 46 = .ok (.istore 4, 2) := e_54 (x := 4) drcX1_spreadOf_0 46 rfl rfl
theorem dX1_spreadOf_48 : decode cX1_spreadOf 48 = .ok (.iinc 6 1, 3) := e_132 (x := 6) (y := 1) drcX1_spreadOf_0 48 rfl rfl
theorem dX1_spreadOf_51 : decode cX1_spreadOf 51 = .ok (.goto (-35), 3) := e_167 (x := 255) (y := 221) drcX1_spreadOf_0 51 rfl rfl
theorem dX1_spreadOf_54 : decode cX1_spreadOf 54 = .ok (.iload_n 3, 1) := dec_29 (gB drcX1_spreadOf_0 54 rfl rfl)
theorem dX1_spreadOf_55 : decode cX1_spreadOf 55 = .ok (.iload 4, 2) := e_21 (x := 4) drcX1_spreadOf_0 55 rfl rfl
theorem dX1_spreadOf_57 : decode cX1_spreadOf 57 = .ok (.isub, 1) := dec_100 (gB drcX1_spreadOf_0 57 rfl rfl)
theorem dX1_spreadOf_58 : decode cX1_spreadOf 58 = .ok (.ireturn, 1) := dec_172 (gB drcX1_spreadOf_0 58 rfl rfl)
def lkcX1_isReadEarlier_0 : List UInt8 := [0x03, 0x3e, 0x1d, 0x1b, 0xa2, 0x00, 0x15, 0x2a, 0x1d, 0x1b, 0x1c, 0xb8, 0x00, 0x3a, 0x9a, 0x00, 0x05, 0x04, 0xac, 0x84, 0x03, 0x01, 0xa7, 0xff, 0xec, 0x03, 0xac]
def tkcX1_isReadEarlier_0 : List UInt8 := lkcX1_isReadEarlier_0 ++ []
theorem drcX1_isReadEarlier_0 : (cX1_isReadEarlier).data.toList.drop 0 = lkcX1_isReadEarlier_0 ++ [] := by decide +kernel
theorem dX1_isReadEarlier_0 : decode cX1_isReadEarlier 0 = .ok (.iconst 0, 1) := dec_3 (gB drcX1_isReadEarlier_0 0 rfl rfl)
theorem dX1_isReadEarlier_1 : decode cX1_isReadEarlier 1 = .ok (.istore_n 3, 1) := dec_62 (gB drcX1_isReadEarlier_0 1 rfl rfl)
theorem dX1_isReadEarlier_2 : decode cX1_isReadEarlier 2 = .ok (.iload_n 3, 1) := dec_29 (gB drcX1_isReadEarlier_0 2 rfl rfl)
theorem dX1_isReadEarlier_3 : decode cX1_isReadEarlier 3 = .ok (.iload_n 1, 1) := dec_27 (gB drcX1_isReadEarlier_0 3 rfl rfl)
theorem dX1_isReadEarlier_4 : decode cX1_isReadEarlier 4 = .ok (.if_icmp .ge 21, 3) := e_162 (x := 0) (y := 21) drcX1_isReadEarlier_0 4 rfl rfl
theorem dX1_isReadEarlier_7 : decode cX1_isReadEarlier 7 = .ok (.aload_n 0, 1) := dec_42 (gB drcX1_isReadEarlier_0 7 rfl rfl)
theorem dX1_isReadEarlier_8 : decode cX1_isReadEarlier 8 = .ok (.iload_n 3, 1) := dec_29 (gB drcX1_isReadEarlier_0 8 rfl rfl)
theorem dX1_isReadEarlier_9 : decode cX1_isReadEarlier 9 = .ok (.iload_n 1, 1) := dec_27 (gB drcX1_isReadEarlier_0 9 rfl rfl)
theorem dX1_isReadEarlier_10 : decode cX1_isReadEarlier 10 = .ok (.iload_n 2, 1) := dec_28 (gB drcX1_isReadEarlier_0 10 rfl rfl)
theorem dX1_isReadEarlier_11 : decode cX1_isReadEarlier 11 = .ok (.invokestatic 58, 3) := e_184 (x := 0) (y := 58) drcX1_isReadEarlier_0 11 rfl rfl
theorem dX1_isReadEarlier_14 : decode cX1_isReadEarlier 14 = .ok (.ifCond .ne 5, 3) := e_154 (x := 0) (y := 5) drcX1_isReadEarlier_0 14 rfl rfl
theorem dX1_isReadEarlier_17 : decode cX1_isReadEarlier 17 = .ok (.iconst 1, 1) := dec_4 (gB drcX1_isReadEarlier_0 17 rfl rfl)
theorem dX1_isReadEarlier_18 : decode cX1_isReadEarlier 18 = .ok (.ireturn, 1) := dec_172 (gB drcX1_isReadEarlier_0 18 rfl rfl)
theorem dX1_isReadEarlier_19 : decode cX1_isReadEarlier 19 = .ok (.iinc 3 1, 3) := e_132 (x := 3) (y := 1) drcX1_isReadEarlier_0 19 rfl rfl
theorem dX1_isReadEarlier_22 : decode cX1_isReadEarlier 22 = .ok (.goto (-20), 3) := e_167 (x := 255) (y := 236) drcX1_isReadEarlier_0 22 rfl rfl
theorem dX1_isReadEarlier_25 : decode cX1_isReadEarlier 25 = .ok (.iconst 0, 1) := dec_3 (gB drcX1_isReadEarlier_0 25 rfl rfl)
theorem dX1_isReadEarlier_26 : decode cX1_isReadEarlier 26 = .ok (.ireturn, 1) := dec_172 (gB drcX1_isReadEarlier_0 26 rfl rfl)
def lkcX1_kindsOf_0 : List UInt8 := [0x03, 0x3e, 0x2a, 0x1b, 0x1c, 0xb8, 0x00, 0x32, 0x36, 0x04, 0x03, 0x36, 0x05, 0x15, 0x05, 0x15, 0x04, 0xa2, 0x00, 0x16, 0x2a, 0x15, 0x05, 0x1b, 0xb8, 0x00, 0x3e, 0x9a, 0x00, 0x06, 0x84, 0x03, 0x01, 0x84, 0x05, 0x01, 0xa7, 0xff, 0xe9, 0x1d, 0xac]
def tkcX1_kindsOf_0 : List UInt8 := lkcX1_kindsOf_0 ++ []
theorem drcX1_kindsOf_0 : (cX1_kindsOf).data.toList.drop 0 = lkcX1_kindsOf_0 ++ [] := by decide +kernel
theorem dX1_kindsOf_0 : decode cX1_kindsOf 0 = .ok (.iconst 0, 1) := dec_3 (gB drcX1_kindsOf_0 0 rfl rfl)
theorem dX1_kindsOf_1 : decode cX1_kindsOf 1 = .ok (.istore_n 3, 1) := dec_62 (gB drcX1_kindsOf_0 1 rfl rfl)
theorem dX1_kindsOf_2 : decode cX1_kindsOf 2 = .ok (.aload_n 0, 1) := dec_42 (gB drcX1_kindsOf_0 2 rfl rfl)
theorem dX1_kindsOf_3 : decode cX1_kindsOf 3 = .ok (.iload_n 1, 1) := dec_27 (gB drcX1_kindsOf_0 3 rfl rfl)
theorem dX1_kindsOf_4 : decode cX1_kindsOf 4 = .ok (.iload_n 2, 1) := dec_28 (gB drcX1_kindsOf_0 4 rfl rfl)
theorem dX1_kindsOf_5 : decode cX1_kindsOf 5 = .ok (.invokestatic 50, 3) := e_184 (x := 0) (y := 50) drcX1_kindsOf_0 5 rfl rfl
theorem dX1_kindsOf_8 : decode cX1_kindsOf 8 = .ok (.istore 4, 2) := e_54 (x := 4) drcX1_kindsOf_0 8 rfl rfl
theorem dX1_kindsOf_10 : decode cX1_kindsOf 10 = .ok (.iconst 0, 1) := dec_3 (gB drcX1_kindsOf_0 10 rfl rfl)
theorem dX1_kindsOf_11 : decode cX1_kindsOf 11 = .ok (.istore 5, 2) := e_54 (x := 5) drcX1_kindsOf_0 11 rfl rfl
theorem dX1_kindsOf_13 : decode cX1_kindsOf 13 = .ok (.iload 5, 2) := e_21 (x := 5) drcX1_kindsOf_0 13 rfl rfl
theorem dX1_kindsOf_15 : decode cX1_kindsOf 15 = .ok (.iload 4, 2) := e_21 (x := 4) drcX1_kindsOf_0 15 rfl rfl
theorem dX1_kindsOf_17 : decode cX1_kindsOf 17 = .ok (.if_icmp .ge 22, 3) := e_162 (x := 0) (y := 22) drcX1_kindsOf_0 17 rfl rfl
theorem dX1_kindsOf_20 : decode cX1_kindsOf 20 = .ok (.aload_n 0, 1) := dec_42 (gB drcX1_kindsOf_0 20 rfl rfl)
theorem dX1_kindsOf_21 : decode cX1_kindsOf 21 = .ok (.iload 5, 2) := e_21 (x := 5) drcX1_kindsOf_0 21 rfl rfl
theorem dX1_kindsOf_23 : decode cX1_kindsOf 23 = .ok (.iload_n 1, 1) := dec_27 (gB drcX1_kindsOf_0 23 rfl rfl)
theorem dX1_kindsOf_24 : decode cX1_kindsOf 24 = .ok (.invokestatic 62, 3) := e_184 (x := 0) (y := 62) drcX1_kindsOf_0 24 rfl rfl
theorem dX1_kindsOf_27 : decode cX1_kindsOf 27 = .ok (.ifCond .ne 6, 3) := e_154 (x := 0) (y := 6) drcX1_kindsOf_0 27 rfl rfl
theorem dX1_kindsOf_30 : decode cX1_kindsOf 30 = .ok (.iinc 3 1, 3) := e_132 (x := 3) (y := 1) drcX1_kindsOf_0 30 rfl rfl
theorem dX1_kindsOf_33 : decode cX1_kindsOf 33 = .ok (.iinc 5 1, 3) := e_132 (x := 5) (y := 1) drcX1_kindsOf_0 33 rfl rfl
theorem dX1_kindsOf_36 : decode cX1_kindsOf 36 = .ok (.goto (-23), 3) := e_167 (x := 255) (y := 233) drcX1_kindsOf_0 36 rfl rfl
theorem dX1_kindsOf_39 : decode cX1_kindsOf 39 = .ok (.iload_n 3, 1) := dec_29 (gB drcX1_kindsOf_0 39 rfl rfl)
theorem dX1_kindsOf_40 : decode cX1_kindsOf 40 = .ok (.ireturn, 1) := dec_172 (gB drcX1_kindsOf_0 40 rfl rfl)
def lkcX1_timesOf_0 : List UInt8 := [0x03, 0x3c, 0x04, 0x3d, 0x1c, 0x2a, 0xb4, 0x00, 0x0c, 0xa3, 0x00, 0x13, 0x1b, 0x2a, 0x1c, 0xb8, 0x00, 0x42, 0xb8, 0x00, 0x2f, 0x3c, 0x84, 0x02, 0x01, 0xa7, 0xff, 0xeb, 0x1b, 0xac]
def tkcX1_timesOf_0 : List UInt8 := lkcX1_timesOf_0 ++ []
theorem drcX1_timesOf_0 : (cX1_timesOf).data.toList.drop 0 = lkcX1_timesOf_0 ++ [] := by decide +kernel
theorem dX1_timesOf_0 : decode cX1_timesOf 0 = .ok (.iconst 0, 1) := dec_3 (gB drcX1_timesOf_0 0 rfl rfl)
theorem dX1_timesOf_1 : decode cX1_timesOf 1 = .ok (.istore_n 1, 1) := dec_60 (gB drcX1_timesOf_0 1 rfl rfl)
theorem dX1_timesOf_2 : decode cX1_timesOf 2 = .ok (.iconst 1, 1) := dec_4 (gB drcX1_timesOf_0 2 rfl rfl)
theorem dX1_timesOf_3 : decode cX1_timesOf 3 = .ok (.istore_n 2, 1) := dec_61 (gB drcX1_timesOf_0 3 rfl rfl)
theorem dX1_timesOf_4 : decode cX1_timesOf 4 = .ok (.iload_n 2, 1) := dec_28 (gB drcX1_timesOf_0 4 rfl rfl)
theorem dX1_timesOf_5 : decode cX1_timesOf 5 = .ok (.aload_n 0, 1) := dec_42 (gB drcX1_timesOf_0 5 rfl rfl)
theorem dX1_timesOf_6 : decode cX1_timesOf 6 = .ok (.getfield 12, 3) := e_180 (x := 0) (y := 12) drcX1_timesOf_0 6 rfl rfl
theorem dX1_timesOf_9 : decode cX1_timesOf 9 = .ok (.if_icmp .gt 19, 3) := e_163 (x := 0) (y := 19) drcX1_timesOf_0 9 rfl rfl
theorem dX1_timesOf_12 : decode cX1_timesOf 12 = .ok (.iload_n 1, 1) := dec_27 (gB drcX1_timesOf_0 12 rfl rfl)
theorem dX1_timesOf_13 : decode cX1_timesOf 13 = .ok (.aload_n 0, 1) := dec_42 (gB drcX1_timesOf_0 13 rfl rfl)
theorem dX1_timesOf_14 : decode cX1_timesOf 14 = .ok (.iload_n 2, 1) := dec_28 (gB drcX1_timesOf_0 14 rfl rfl)
theorem dX1_timesOf_15 : decode cX1_timesOf 15 = .ok (.invokestatic 66, 3) := e_184 (x := 0) (y := 66) drcX1_timesOf_0 15 rfl rfl
theorem dX1_timesOf_18 : decode cX1_timesOf 18 = .ok (.invokestatic 47, 3) := e_184 (x := 0) (y := 47) drcX1_timesOf_0 18 rfl rfl
theorem dX1_timesOf_21 : decode cX1_timesOf 21 = .ok (.istore_n 1, 1) := dec_60 (gB drcX1_timesOf_0 21 rfl rfl)
theorem dX1_timesOf_22 : decode cX1_timesOf 22 = .ok (.iinc 2 1, 3) := e_132 (x := 2) (y := 1) drcX1_timesOf_0 22 rfl rfl
theorem dX1_timesOf_25 : decode cX1_timesOf 25 = .ok (.goto (-21), 3) := e_167 (x := 255) (y := 235) drcX1_timesOf_0 25 rfl rfl
theorem dX1_timesOf_28 : decode cX1_timesOf 28 = .ok (.iload_n 1, 1) := dec_27 (gB drcX1_timesOf_0 28 rfl rfl)
theorem dX1_timesOf_29 : decode cX1_timesOf 29 = .ok (.ireturn, 1) := dec_172 (gB drcX1_timesOf_0 29 rfl rfl)
def lkcX1_timesWith_0 : List UInt8 := [0x03, 0x3d, 0x03, 0x3e, 0x03, 0x36, 0x04, 0x15, 0x04, 0x1b, 0x60, 0x2a, 0xb4, 0x00, 0x0c, 0xa2, 0x00, 0x28, 0x2a, 0x15, 0x04, 0xb6, 0x00, 0x12, 0x2a, 0x15, 0x04, 0x1b, 0x60, 0xb6, 0x00, 0x12, 0xa0, 0x00, 0x09, 0x1c, 0x04, 0x60, 0xa7, 0x00, 0x04, 0x03, 0x3d, 0x1d, 0x1c, 0xb8, 0x00, 0x2f, 0x3e, 0x84, 0x04, 0x01, 0xa7, 0xff, 0xd3, 0x1b, 0x9e, 0x00, 0x0b, 0x1d, 0x1b, 0x6c, 0x04, 0x60]
def lkcX1_timesWith_1 : List UInt8 := [0xa7, 0x00, 0x04, 0x04, 0xac]
def tkcX1_timesWith_1 : List UInt8 := lkcX1_timesWith_1 ++ []
def tkcX1_timesWith_0 : List UInt8 := lkcX1_timesWith_0 ++ tkcX1_timesWith_1
theorem drcX1_timesWith_0 : (cX1_timesWith).data.toList.drop 0 = lkcX1_timesWith_0 ++ tkcX1_timesWith_1 := by decide +kernel
theorem drcX1_timesWith_1 : (cX1_timesWith).data.toList.drop 64 = lkcX1_timesWith_1 ++ [] := dr_step drcX1_timesWith_0 rfl
theorem dX1_timesWith_0 : decode cX1_timesWith 0 = .ok (.iconst 0, 1) := dec_3 (gB drcX1_timesWith_0 0 rfl rfl)
theorem dX1_timesWith_1 : decode cX1_timesWith 1 = .ok (.istore_n 2, 1) := dec_61 (gB drcX1_timesWith_0 1 rfl rfl)
theorem dX1_timesWith_2 : decode cX1_timesWith 2 = .ok (.iconst 0, 1) := dec_3 (gB drcX1_timesWith_0 2 rfl rfl)
theorem dX1_timesWith_3 : decode cX1_timesWith 3 = .ok (.istore_n 3, 1) := dec_62 (gB drcX1_timesWith_0 3 rfl rfl)
theorem dX1_timesWith_4 : decode cX1_timesWith 4 = .ok (.iconst 0, 1) := dec_3 (gB drcX1_timesWith_0 4 rfl rfl)
theorem dX1_timesWith_5 : decode cX1_timesWith 5 = .ok (.istore 4, 2) := e_54 (x := 4) drcX1_timesWith_0 5 rfl rfl
theorem dX1_timesWith_7 : decode cX1_timesWith 7 = .ok (.iload 4, 2) := e_21 (x := 4) drcX1_timesWith_0 7 rfl rfl
theorem dX1_timesWith_9 : decode cX1_timesWith 9 = .ok (.iload_n 1, 1) := dec_27 (gB drcX1_timesWith_0 9 rfl rfl)
theorem dX1_timesWith_10 : decode cX1_timesWith 10 = .ok (.iadd, 1) := dec_96 (gB drcX1_timesWith_0 10 rfl rfl)
theorem dX1_timesWith_11 : decode cX1_timesWith 11 = .ok (.aload_n 0, 1) := dec_42 (gB drcX1_timesWith_0 11 rfl rfl)
theorem dX1_timesWith_12 : decode cX1_timesWith 12 = .ok (.getfield 12, 3) := e_180 (x := 0) (y := 12) drcX1_timesWith_0 12 rfl rfl
theorem dX1_timesWith_15 : decode cX1_timesWith 15 = .ok (.if_icmp .ge 40, 3) := e_162 (x := 0) (y := 40) drcX1_timesWith_0 15 rfl rfl
theorem dX1_timesWith_18 : decode cX1_timesWith 18 = .ok (.aload_n 0, 1) := dec_42 (gB drcX1_timesWith_0 18 rfl rfl)
theorem dX1_timesWith_19 : decode cX1_timesWith 19 = .ok (.iload 4, 2) := e_21 (x := 4) drcX1_timesWith_0 19 rfl rfl
theorem dX1_timesWith_21 : decode cX1_timesWith 21 = .ok (.invokevirtual 18, 3) := e_182 (x := 0) (y := 18) drcX1_timesWith_0 21 rfl rfl
theorem dX1_timesWith_24 : decode cX1_timesWith 24 = .ok (.aload_n 0, 1) := dec_42 (gB drcX1_timesWith_0 24 rfl rfl)
theorem dX1_timesWith_25 : decode cX1_timesWith 25 = .ok (.iload 4, 2) := e_21 (x := 4) drcX1_timesWith_0 25 rfl rfl
theorem dX1_timesWith_27 : decode cX1_timesWith 27 = .ok (.iload_n 1, 1) := dec_27 (gB drcX1_timesWith_0 27 rfl rfl)
theorem dX1_timesWith_28 : decode cX1_timesWith 28 = .ok (.iadd, 1) := dec_96 (gB drcX1_timesWith_0 28 rfl rfl)
theorem dX1_timesWith_29 : decode cX1_timesWith 29 = .ok (.invokevirtual 18, 3) := e_182 (x := 0) (y := 18) drcX1_timesWith_0 29 rfl rfl
theorem dX1_timesWith_32 : decode cX1_timesWith 32 = .ok (.if_icmp .ne 9, 3) := e_160 (x := 0) (y := 9) drcX1_timesWith_0 32 rfl rfl
theorem dX1_timesWith_35 : decode cX1_timesWith 35 = .ok (.iload_n 2, 1) := dec_28 (gB drcX1_timesWith_0 35 rfl rfl)
theorem dX1_timesWith_36 : decode cX1_timesWith 36 = .ok (.iconst 1, 1) := dec_4 (gB drcX1_timesWith_0 36 rfl rfl)
theorem dX1_timesWith_37 : decode cX1_timesWith 37 = .ok (.iadd, 1) := dec_96 (gB drcX1_timesWith_0 37 rfl rfl)
theorem dX1_timesWith_38 : decode cX1_timesWith 38 = .ok (.goto 4, 3) := e_167 (x := 0) (y := 4) drcX1_timesWith_0 38 rfl rfl
theorem dX1_timesWith_41 : decode cX1_timesWith 41 = .ok (.iconst 0, 1) := dec_3 (gB drcX1_timesWith_0 41 rfl rfl)
theorem dX1_timesWith_42 : decode cX1_timesWith 42 = .ok (.istore_n 2, 1) := dec_61 (gB drcX1_timesWith_0 42 rfl rfl)
theorem dX1_timesWith_43 : decode cX1_timesWith 43 = .ok (.iload_n 3, 1) := dec_29 (gB drcX1_timesWith_0 43 rfl rfl)
theorem dX1_timesWith_44 : decode cX1_timesWith 44 = .ok (.iload_n 2, 1) := dec_28 (gB drcX1_timesWith_0 44 rfl rfl)
theorem dX1_timesWith_45 : decode cX1_timesWith 45 = .ok (.invokestatic 47, 3) := e_184 (x := 0) (y := 47) drcX1_timesWith_0 45 rfl rfl
theorem dX1_timesWith_48 : decode cX1_timesWith 48 = .ok (.istore_n 3, 1) := dec_62 (gB drcX1_timesWith_0 48 rfl rfl)
theorem dX1_timesWith_49 : decode cX1_timesWith 49 = .ok (.iinc 4 1, 3) := e_132 (x := 4) (y := 1) drcX1_timesWith_0 49 rfl rfl
theorem dX1_timesWith_52 : decode cX1_timesWith 52 = .ok (.goto (-45), 3) := e_167 (x := 255) (y := 211) drcX1_timesWith_0 52 rfl rfl
theorem dX1_timesWith_55 : decode cX1_timesWith 55 = .ok (.iload_n 1, 1) := dec_27 (gB drcX1_timesWith_0 55 rfl rfl)
theorem dX1_timesWith_56 : decode cX1_timesWith 56 = .ok (.ifCond .le 11, 3) := e_158 (x := 0) (y := 11) drcX1_timesWith_0 56 rfl rfl
theorem dX1_timesWith_59 : decode cX1_timesWith 59 = .ok (.iload_n 3, 1) := dec_29 (gB drcX1_timesWith_0 59 rfl rfl)
theorem dX1_timesWith_60 : decode cX1_timesWith 60 = .ok (.iload_n 1, 1) := dec_27 (gB drcX1_timesWith_0 60 rfl rfl)
theorem dX1_timesWith_61 : decode cX1_timesWith 61 = .ok (.idiv, 1) := dec_108 (gB drcX1_timesWith_0 61 rfl rfl)
theorem dX1_timesWith_62 : decode cX1_timesWith 62 = .ok (.iconst 1, 1) := dec_4 (gB drcX1_timesWith_0 62 rfl rfl)
theorem dX1_timesWith_63 : decode cX1_timesWith 63 = .ok (.iadd, 1) := dec_96 (gB drcX1_timesWith_0 63 rfl rfl)
theorem dX1_timesWith_64 : decode cX1_timesWith 64 = .ok (.goto 4, 3) := e_167 (x := 0) (y := 4) drcX1_timesWith_1 0 rfl rfl
theorem dX1_timesWith_67 : decode cX1_timesWith 67 = .ok (.iconst 1, 1) := dec_4 (gB drcX1_timesWith_1 3 rfl rfl)
theorem dX1_timesWith_68 : decode cX1_timesWith 68 = .ok (.ireturn, 1) := dec_172 (gB drcX1_timesWith_1 4 rfl rfl)
def lkcX1_overlapsOf_0 : List UInt8 := [0x03, 0x3c, 0x04, 0x3d, 0x1c, 0x2a, 0xb4, 0x00, 0x0c, 0xa2, 0x00, 0x29, 0x03, 0x3e, 0x1d, 0x05, 0x1c, 0x68, 0x60, 0x2a, 0xb4, 0x00, 0x0c, 0xa2, 0x00, 0x15, 0x2a, 0x1d, 0x1c, 0xb8, 0x00, 0x46, 0x99, 0x00, 0x06, 0x84, 0x01, 0x01, 0x84, 0x03, 0x01, 0xa7, 0xff, 0xe5, 0x84, 0x02, 0x01, 0xa7, 0xff, 0xd5, 0x1b, 0xac]
def tkcX1_overlapsOf_0 : List UInt8 := lkcX1_overlapsOf_0 ++ []
theorem drcX1_overlapsOf_0 : (cX1_overlapsOf).data.toList.drop 0 = lkcX1_overlapsOf_0 ++ [] := by decide +kernel
theorem dX1_overlapsOf_0 : decode cX1_overlapsOf 0 = .ok (.iconst 0, 1) := dec_3 (gB drcX1_overlapsOf_0 0 rfl rfl)
theorem dX1_overlapsOf_1 : decode cX1_overlapsOf 1 = .ok (.istore_n 1, 1) := dec_60 (gB drcX1_overlapsOf_0 1 rfl rfl)
theorem dX1_overlapsOf_2 : decode cX1_overlapsOf 2 = .ok (.iconst 1, 1) := dec_4 (gB drcX1_overlapsOf_0 2 rfl rfl)
theorem dX1_overlapsOf_3 : decode cX1_overlapsOf 3 = .ok (.istore_n 2, 1) := dec_61 (gB drcX1_overlapsOf_0 3 rfl rfl)
theorem dX1_overlapsOf_4 : decode cX1_overlapsOf 4 = .ok (.iload_n 2, 1) := dec_28 (gB drcX1_overlapsOf_0 4 rfl rfl)
theorem dX1_overlapsOf_5 : decode cX1_overlapsOf 5 = .ok (.aload_n 0, 1) := dec_42 (gB drcX1_overlapsOf_0 5 rfl rfl)
theorem dX1_overlapsOf_6 : decode cX1_overlapsOf 6 = .ok (.getfield 12, 3) := e_180 (x := 0) (y := 12) drcX1_overlapsOf_0 6 rfl rfl
theorem dX1_overlapsOf_9 : decode cX1_overlapsOf 9 = .ok (.if_icmp .ge 41, 3) := e_162 (x := 0) (y := 41) drcX1_overlapsOf_0 9 rfl rfl
theorem dX1_overlapsOf_12 : decode cX1_overlapsOf 12 = .ok (.iconst 0, 1) := dec_3 (gB drcX1_overlapsOf_0 12 rfl rfl)
theorem dX1_overlapsOf_13 : decode cX1_overlapsOf 13 = .ok (.istore_n 3, 1) := dec_62 (gB drcX1_overlapsOf_0 13 rfl rfl)
theorem dX1_overlapsOf_14 : decode cX1_overlapsOf 14 = .ok (.iload_n 3, 1) := dec_29 (gB drcX1_overlapsOf_0 14 rfl rfl)
theorem dX1_overlapsOf_15 : decode cX1_overlapsOf 15 = .ok (.iconst 2, 1) := dec_5 (gB drcX1_overlapsOf_0 15 rfl rfl)
theorem dX1_overlapsOf_16 : decode cX1_overlapsOf 16 = .ok (.iload_n 2, 1) := dec_28 (gB drcX1_overlapsOf_0 16 rfl rfl)
theorem dX1_overlapsOf_17 : decode cX1_overlapsOf 17 = .ok (.imul, 1) := dec_104 (gB drcX1_overlapsOf_0 17 rfl rfl)
theorem dX1_overlapsOf_18 : decode cX1_overlapsOf 18 = .ok (.iadd, 1) := dec_96 (gB drcX1_overlapsOf_0 18 rfl rfl)
theorem dX1_overlapsOf_19 : decode cX1_overlapsOf 19 = .ok (.aload_n 0, 1) := dec_42 (gB drcX1_overlapsOf_0 19 rfl rfl)
theorem dX1_overlapsOf_20 : decode cX1_overlapsOf 20 = .ok (.getfield 12, 3) := e_180 (x := 0) (y := 12) drcX1_overlapsOf_0 20 rfl rfl
theorem dX1_overlapsOf_23 : decode cX1_overlapsOf 23 = .ok (.if_icmp .ge 21, 3) := e_162 (x := 0) (y := 21) drcX1_overlapsOf_0 23 rfl rfl
theorem dX1_overlapsOf_26 : decode cX1_overlapsOf 26 = .ok (.aload_n 0, 1) := dec_42 (gB drcX1_overlapsOf_0 26 rfl rfl)
theorem dX1_overlapsOf_27 : decode cX1_overlapsOf 27 = .ok (.iload_n 3, 1) := dec_29 (gB drcX1_overlapsOf_0 27 rfl rfl)
theorem dX1_overlapsOf_28 : decode cX1_overlapsOf 28 = .ok (.iload_n 2, 1) := dec_28 (gB drcX1_overlapsOf_0 28 rfl rfl)
theorem dX1_overlapsOf_29 : decode cX1_overlapsOf 29 = .ok (.invokestatic 70, 3) := e_184 (x := 0) (y := 70) drcX1_overlapsOf_0 29 rfl rfl
theorem dX1_overlapsOf_32 : decode cX1_overlapsOf 32 = .ok (.ifCond .eq 6, 3) := e_153 (x := 0) (y := 6) drcX1_overlapsOf_0 32 rfl rfl
theorem dX1_overlapsOf_35 : decode cX1_overlapsOf 35 = .ok (.iinc 1 1, 3) := e_132 (x := 1) (y := 1) drcX1_overlapsOf_0 35 rfl rfl
theorem dX1_overlapsOf_38 : decode cX1_overlapsOf 38 = .ok (.iinc 3 1, 3) := e_132 (x := 3) (y := 1) drcX1_overlapsOf_0 38 rfl rfl
theorem dX1_overlapsOf_41 : decode cX1_overlapsOf 41 = .ok (.goto (-27), 3) := e_167 (x := 255) (y := 229) drcX1_overlapsOf_0 41 rfl rfl
theorem dX1_overlapsOf_44 : decode cX1_overlapsOf 44 = .ok (.iinc 2 1, 3) := e_132 (x := 2) (y := 1) drcX1_overlapsOf_0 44 rfl rfl
theorem dX1_overlapsOf_47 : decode cX1_overlapsOf 47 = .ok (.goto (-43), 3) := e_167 (x := 255) (y := 213) drcX1_overlapsOf_0 47 rfl rfl
theorem dX1_overlapsOf_50 : decode cX1_overlapsOf 50 = .ok (.iload_n 1, 1) := dec_27 (gB drcX1_overlapsOf_0 50 rfl rfl)
theorem dX1_overlapsOf_51 : decode cX1_overlapsOf 51 = .ok (.ireturn, 1) := dec_172 (gB drcX1_overlapsOf_0 51 rfl rfl)
def lkcX1_isOverlap_0 : List UInt8 := [0x1b, 0x3e, 0x1d, 0x1b, 0x1c, 0x60, 0xa3, 0x00, 0x1a, 0x2a, 0x1d, 0xb6, 0x00, 0x12, 0x2a, 0x1d, 0x1c, 0x60, 0xb6, 0x00, 0x12, 0x9f, 0x00, 0x05, 0x03, 0xac, 0x84, 0x03, 0x01, 0xa7, 0xff, 0xe5, 0x04, 0xac]
def tkcX1_isOverlap_0 : List UInt8 := lkcX1_isOverlap_0 ++ []
theorem drcX1_isOverlap_0 : (cX1_isOverlap).data.toList.drop 0 = lkcX1_isOverlap_0 ++ [] := by decide +kernel
theorem dX1_isOverlap_0 : decode cX1_isOverlap 0 = .ok (.iload_n 1, 1) := dec_27 (gB drcX1_isOverlap_0 0 rfl rfl)
theorem dX1_isOverlap_1 : decode cX1_isOverlap 1 = .ok (.istore_n 3, 1) := dec_62 (gB drcX1_isOverlap_0 1 rfl rfl)
theorem dX1_isOverlap_2 : decode cX1_isOverlap 2 = .ok (.iload_n 3, 1) := dec_29 (gB drcX1_isOverlap_0 2 rfl rfl)
theorem dX1_isOverlap_3 : decode cX1_isOverlap 3 = .ok (.iload_n 1, 1) := dec_27 (gB drcX1_isOverlap_0 3 rfl rfl)
theorem dX1_isOverlap_4 : decode cX1_isOverlap 4 = .ok (.iload_n 2, 1) := dec_28 (gB drcX1_isOverlap_0 4 rfl rfl)
theorem dX1_isOverlap_5 : decode cX1_isOverlap 5 = .ok (.iadd, 1) := dec_96 (gB drcX1_isOverlap_0 5 rfl rfl)
theorem dX1_isOverlap_6 : decode cX1_isOverlap 6 = .ok (.if_icmp .gt 26, 3) := e_163 (x := 0) (y := 26) drcX1_isOverlap_0 6 rfl rfl
theorem dX1_isOverlap_9 : decode cX1_isOverlap 9 = .ok (.aload_n 0, 1) := dec_42 (gB drcX1_isOverlap_0 9 rfl rfl)
theorem dX1_isOverlap_10 : decode cX1_isOverlap 10 = .ok (.iload_n 3, 1) := dec_29 (gB drcX1_isOverlap_0 10 rfl rfl)
theorem dX1_isOverlap_11 : decode cX1_isOverlap 11 = .ok (.invokevirtual 18, 3) := e_182 (x := 0) (y := 18) drcX1_isOverlap_0 11 rfl rfl
theorem dX1_isOverlap_14 : decode cX1_isOverlap 14 = .ok (.aload_n 0, 1) := dec_42 (gB drcX1_isOverlap_0 14 rfl rfl)
theorem dX1_isOverlap_15 : decode cX1_isOverlap 15 = .ok (.iload_n 3, 1) := dec_29 (gB drcX1_isOverlap_0 15 rfl rfl)
theorem dX1_isOverlap_16 : decode cX1_isOverlap 16 = .ok (.iload_n 2, 1) := dec_28 (gB drcX1_isOverlap_0 16 rfl rfl)
theorem dX1_isOverlap_17 : decode cX1_isOverlap 17 = .ok (.iadd, 1) := dec_96 (gB drcX1_isOverlap_0 17 rfl rfl)
theorem dX1_isOverlap_18 : decode cX1_isOverlap 18 = .ok (.invokevirtual 18, 3) := e_182 (x := 0) (y := 18) drcX1_isOverlap_0 18 rfl rfl
theorem dX1_isOverlap_21 : decode cX1_isOverlap 21 = .ok (.if_icmp .eq 5, 3) := e_159 (x := 0) (y := 5) drcX1_isOverlap_0 21 rfl rfl
theorem dX1_isOverlap_24 : decode cX1_isOverlap 24 = .ok (.iconst 0, 1) := dec_3 (gB drcX1_isOverlap_0 24 rfl rfl)
theorem dX1_isOverlap_25 : decode cX1_isOverlap 25 = .ok (.ireturn, 1) := dec_172 (gB drcX1_isOverlap_0 25 rfl rfl)
theorem dX1_isOverlap_26 : decode cX1_isOverlap 26 = .ok (.iinc 3 1, 3) := e_132 (x := 3) (y := 1) drcX1_isOverlap_0 26 rfl rfl
theorem dX1_isOverlap_29 : decode cX1_isOverlap 29 = .ok (.goto (-27), 3) := e_167 (x := 255) (y := 229) drcX1_isOverlap_0 29 rfl rfl
theorem dX1_isOverlap_32 : decode cX1_isOverlap 32 = .ok (.iconst 1, 1) := dec_4 (gB drcX1_isOverlap_0 32 rfl rfl)
theorem dX1_isOverlap_33 : decode cX1_isOverlap 33 = .ok (.ireturn, 1) := dec_172 (gB drcX1_isOverlap_0 33 rfl rfl)
def lkcX1_mirrorsOf_0 : List UInt8 := [0x03, 0x3c, 0x03, 0x3d, 0x1c, 0x2a, 0xb4, 0x00, 0x0c, 0xa2, 0x00, 0x30, 0x04, 0x3e, 0x1d, 0x2a, 0xb4, 0x00, 0x0c, 0x1c, 0x64, 0xa3, 0x00, 0x1e, 0x2a, 0x1c, 0x1d, 0xb8, 0x00, 0x49, 0x99, 0x00, 0x0f, 0x2a, 0x1c, 0x1d, 0xb8, 0x00, 0x3e, 0x9a, 0x00, 0x06, 0x84, 0x01, 0x01, 0x84, 0x03, 0x01, 0xa7, 0xff, 0xde, 0x84, 0x02, 0x01, 0xa7, 0xff, 0xce, 0x1b, 0xac]
def tkcX1_mirrorsOf_0 : List UInt8 := lkcX1_mirrorsOf_0 ++ []
theorem drcX1_mirrorsOf_0 : (cX1_mirrorsOf).data.toList.drop 0 = lkcX1_mirrorsOf_0 ++ [] := by decide +kernel
theorem dX1_mirrorsOf_0 : decode cX1_mirrorsOf 0 = .ok (.iconst 0, 1) := dec_3 (gB drcX1_mirrorsOf_0 0 rfl rfl)
theorem dX1_mirrorsOf_1 : decode cX1_mirrorsOf 1 = .ok (.istore_n 1, 1) := dec_60 (gB drcX1_mirrorsOf_0 1 rfl rfl)
theorem dX1_mirrorsOf_2 : decode cX1_mirrorsOf 2 = .ok (.iconst 0, 1) := dec_3 (gB drcX1_mirrorsOf_0 2 rfl rfl)
theorem dX1_mirrorsOf_3 : decode cX1_mirrorsOf 3 = .ok (.istore_n 2, 1) := dec_61 (gB drcX1_mirrorsOf_0 3 rfl rfl)
theorem dX1_mirrorsOf_4 : decode cX1_mirrorsOf 4 = .ok (.iload_n 2, 1) := dec_28 (gB drcX1_mirrorsOf_0 4 rfl rfl)
theorem dX1_mirrorsOf_5 : decode cX1_mirrorsOf 5 = .ok (.aload_n 0, 1) := dec_42 (gB drcX1_mirrorsOf_0 5 rfl rfl)
theorem dX1_mirrorsOf_6 : decode cX1_mirrorsOf 6 = .ok (.getfield 12, 3) := e_180 (x := 0) (y := 12) drcX1_mirrorsOf_0 6 rfl rfl
theorem dX1_mirrorsOf_9 : decode cX1_mirrorsOf 9 = .ok (.if_icmp .ge 48, 3) := e_162 (x := 0) (y := 48) drcX1_mirrorsOf_0 9 rfl rfl
theorem dX1_mirrorsOf_12 : decode cX1_mirrorsOf 12 = .ok (.iconst 1, 1) := dec_4 (gB drcX1_mirrorsOf_0 12 rfl rfl)
theorem dX1_mirrorsOf_13 : decode cX1_mirrorsOf 13 = .ok (.istore_n 3, 1) := dec_62 (gB drcX1_mirrorsOf_0 13 rfl rfl)
theorem dX1_mirrorsOf_14 : decode cX1_mirrorsOf 14 = .ok (.iload_n 3, 1) := dec_29 (gB drcX1_mirrorsOf_0 14 rfl rfl)
theorem dX1_mirrorsOf_15 : decode cX1_mirrorsOf 15 = .ok (.aload_n 0, 1) := dec_42 (gB drcX1_mirrorsOf_0 15 rfl rfl)
theorem dX1_mirrorsOf_16 : decode cX1_mirrorsOf 16 = .ok (.getfield 12, 3) := e_180 (x := 0) (y := 12) drcX1_mirrorsOf_0 16 rfl rfl
theorem dX1_mirrorsOf_19 : decode cX1_mirrorsOf 19 = .ok (.iload_n 2, 1) := dec_28 (gB drcX1_mirrorsOf_0 19 rfl rfl)
theorem dX1_mirrorsOf_20 : decode cX1_mirrorsOf 20 = .ok (.isub, 1) := dec_100 (gB drcX1_mirrorsOf_0 20 rfl rfl)
theorem dX1_mirrorsOf_21 : decode cX1_mirrorsOf 21 = .ok (.if_icmp .gt 30, 3) := e_163 (x := 0) (y := 30) drcX1_mirrorsOf_0 21 rfl rfl
theorem dX1_mirrorsOf_24 : decode cX1_mirrorsOf 24 = .ok (.aload_n 0, 1) := dec_42 (gB drcX1_mirrorsOf_0 24 rfl rfl)
theorem dX1_mirrorsOf_25 : decode cX1_mirrorsOf 25 = .ok (.iload_n 2, 1) := dec_28 (gB drcX1_mirrorsOf_0 25 rfl rfl)
theorem dX1_mirrorsOf_26 : decode cX1_mirrorsOf 26 = .ok (.iload_n 3, 1) := dec_29 (gB drcX1_mirrorsOf_0 26 rfl rfl)
theorem dX1_mirrorsOf_27 : decode cX1_mirrorsOf 27 = .ok (.invokestatic 73, 3) := e_184 (x := 0) (y := 73) drcX1_mirrorsOf_0 27 rfl rfl
theorem dX1_mirrorsOf_30 : decode cX1_mirrorsOf 30 = .ok (.ifCond .eq 15, 3) := e_153 (x := 0) (y := 15) drcX1_mirrorsOf_0 30 rfl rfl
theorem dX1_mirrorsOf_33 : decode cX1_mirrorsOf 33 = .ok (.aload_n 0, 1) := dec_42 (gB drcX1_mirrorsOf_0 33 rfl rfl)
theorem dX1_mirrorsOf_34 : decode cX1_mirrorsOf 34 = .ok (.iload_n 2, 1) := dec_28 (gB drcX1_mirrorsOf_0 34 rfl rfl)
theorem dX1_mirrorsOf_35 : decode cX1_mirrorsOf 35 = .ok (.iload_n 3, 1) := dec_29 (gB drcX1_mirrorsOf_0 35 rfl rfl)
theorem dX1_mirrorsOf_36 : decode cX1_mirrorsOf 36 = .ok (.invokestatic 62, 3) := e_184 (x := 0) (y := 62) drcX1_mirrorsOf_0 36 rfl rfl
theorem dX1_mirrorsOf_39 : decode cX1_mirrorsOf 39 = .ok (.ifCond .ne 6, 3) := e_154 (x := 0) (y := 6) drcX1_mirrorsOf_0 39 rfl rfl
theorem dX1_mirrorsOf_42 : decode cX1_mirrorsOf 42 = .ok (.iinc 1 1, 3) := e_132 (x := 1) (y := 1) drcX1_mirrorsOf_0 42 rfl rfl
theorem dX1_mirrorsOf_45 : decode cX1_mirrorsOf 45 = .ok (.iinc 3 1, 3) := e_132 (x := 3) (y := 1) drcX1_mirrorsOf_0 45 rfl rfl
theorem dX1_mirrorsOf_48 : decode cX1_mirrorsOf 48 = .ok (.goto (-34), 3) := e_167 (x := 255) (y := 222) drcX1_mirrorsOf_0 48 rfl rfl
theorem dX1_mirrorsOf_51 : decode cX1_mirrorsOf 51 = .ok (.iinc 2 1, 3) := e_132 (x := 2) (y := 1) drcX1_mirrorsOf_0 51 rfl rfl
theorem dX1_mirrorsOf_54 : decode cX1_mirrorsOf 54 = .ok (.goto (-50), 3) := e_167 (x := 255) (y := 206) drcX1_mirrorsOf_0 54 rfl rfl
theorem dX1_mirrorsOf_57 : decode cX1_mirrorsOf 57 = .ok (.iload_n 1, 1) := dec_27 (gB drcX1_mirrorsOf_0 57 rfl rfl)
theorem dX1_mirrorsOf_58 : decode cX1_mirrorsOf 58 = .ok (.ireturn, 1) := dec_172 (gB drcX1_mirrorsOf_0 58 rfl rfl)
def lkcX1_foldsOf_0 : List UInt8 := [0x03, 0x3c, 0x03, 0x3d, 0x1c, 0x2a, 0xb4, 0x00, 0x0c, 0xa2, 0x00, 0x23, 0x2a, 0x03, 0x1c, 0xb8, 0x00, 0x49, 0x99, 0x00, 0x14, 0x2a, 0x1c, 0x2a, 0xb4, 0x00, 0x0c, 0x1c, 0x64, 0xb8, 0x00, 0x49, 0x99, 0x00, 0x06, 0x84, 0x01, 0x01, 0x84, 0x02, 0x01, 0xa7, 0xff, 0xdb, 0x1b, 0xac]
def tkcX1_foldsOf_0 : List UInt8 := lkcX1_foldsOf_0 ++ []
theorem drcX1_foldsOf_0 : (cX1_foldsOf).data.toList.drop 0 = lkcX1_foldsOf_0 ++ [] := by decide +kernel
theorem dX1_foldsOf_0 : decode cX1_foldsOf 0 = .ok (.iconst 0, 1) := dec_3 (gB drcX1_foldsOf_0 0 rfl rfl)
theorem dX1_foldsOf_1 : decode cX1_foldsOf 1 = .ok (.istore_n 1, 1) := dec_60 (gB drcX1_foldsOf_0 1 rfl rfl)
theorem dX1_foldsOf_2 : decode cX1_foldsOf 2 = .ok (.iconst 0, 1) := dec_3 (gB drcX1_foldsOf_0 2 rfl rfl)
theorem dX1_foldsOf_3 : decode cX1_foldsOf 3 = .ok (.istore_n 2, 1) := dec_61 (gB drcX1_foldsOf_0 3 rfl rfl)
theorem dX1_foldsOf_4 : decode cX1_foldsOf 4 = .ok (.iload_n 2, 1) := dec_28 (gB drcX1_foldsOf_0 4 rfl rfl)
theorem dX1_foldsOf_5 : decode cX1_foldsOf 5 = .ok (.aload_n 0, 1) := dec_42 (gB drcX1_foldsOf_0 5 rfl rfl)
theorem dX1_foldsOf_6 : decode cX1_foldsOf 6 = .ok (.getfield 12, 3) := e_180 (x := 0) (y := 12) drcX1_foldsOf_0 6 rfl rfl
theorem dX1_foldsOf_9 : decode cX1_foldsOf 9 = .ok (.if_icmp .ge 35, 3) := e_162 (x := 0) (y := 35) drcX1_foldsOf_0 9 rfl rfl
theorem dX1_foldsOf_12 : decode cX1_foldsOf 12 = .ok (.aload_n 0, 1) := dec_42 (gB drcX1_foldsOf_0 12 rfl rfl)
theorem dX1_foldsOf_13 : decode cX1_foldsOf 13 = .ok (.iconst 0, 1) := dec_3 (gB drcX1_foldsOf_0 13 rfl rfl)
theorem dX1_foldsOf_14 : decode cX1_foldsOf 14 = .ok (.iload_n 2, 1) := dec_28 (gB drcX1_foldsOf_0 14 rfl rfl)
theorem dX1_foldsOf_15 : decode cX1_foldsOf 15 = .ok (.invokestatic 73, 3) := e_184 (x := 0) (y := 73) drcX1_foldsOf_0 15 rfl rfl
theorem dX1_foldsOf_18 : decode cX1_foldsOf 18 = .ok (.ifCond .eq 20, 3) := e_153 (x := 0) (y := 20) drcX1_foldsOf_0 18 rfl rfl
theorem dX1_foldsOf_21 : decode cX1_foldsOf 21 = .ok (.aload_n 0, 1) := dec_42 (gB drcX1_foldsOf_0 21 rfl rfl)
theorem dX1_foldsOf_22 : decode cX1_foldsOf 22 = .ok (.iload_n 2, 1) := dec_28 (gB drcX1_foldsOf_0 22 rfl rfl)
theorem dX1_foldsOf_23 : decode cX1_foldsOf 23 = .ok (.aload_n 0, 1) := dec_42 (gB drcX1_foldsOf_0 23 rfl rfl)
theorem dX1_foldsOf_24 : decode cX1_foldsOf 24 = .ok (.getfield 12, 3) := e_180 (x := 0) (y := 12) drcX1_foldsOf_0 24 rfl rfl
theorem dX1_foldsOf_27 : decode cX1_foldsOf 27 = .ok (.iload_n 2, 1) := dec_28 (gB drcX1_foldsOf_0 27 rfl rfl)
theorem dX1_foldsOf_28 : decode cX1_foldsOf 28 = .ok (.isub, 1) := dec_100 (gB drcX1_foldsOf_0 28 rfl rfl)
theorem dX1_foldsOf_29 : decode cX1_foldsOf 29 = .ok (.invokestatic 73, 3) := e_184 (x := 0) (y := 73) drcX1_foldsOf_0 29 rfl rfl
theorem dX1_foldsOf_32 : decode cX1_foldsOf 32 = .ok (.ifCond .eq 6, 3) := e_153 (x := 0) (y := 6) drcX1_foldsOf_0 32 rfl rfl
theorem dX1_foldsOf_35 : decode cX1_foldsOf 35 = .ok (.iinc 1 1, 3) := e_132 (x := 1) (y := 1) drcX1_foldsOf_0 35 rfl rfl
theorem dX1_foldsOf_38 : decode cX1_foldsOf 38 = .ok (.iinc 2 1, 3) := e_132 (x := 2) (y := 1) drcX1_foldsOf_0 38 rfl rfl
theorem dX1_foldsOf_41 : decode cX1_foldsOf 41 = .ok (.goto (-37), 3) := e_167 (x := 255) (y := 219) drcX1_foldsOf_0 41 rfl rfl
theorem dX1_foldsOf_44 : decode cX1_foldsOf 44 = .ok (.iload_n 1, 1) := dec_27 (gB drcX1_foldsOf_0 44 rfl rfl)
theorem dX1_foldsOf_45 : decode cX1_foldsOf 45 = .ok (.ireturn, 1) := dec_172 (gB drcX1_foldsOf_0 45 rfl rfl)
def lkcX1_leastOf_0 : List UInt8 := [0x03, 0x3c, 0x04, 0x3d, 0x1c, 0x2a, 0xb4, 0x00, 0x0c, 0xa2, 0x00, 0x18, 0x2a, 0x1c, 0x1b, 0x2a, 0xb4, 0x00, 0x0c, 0xb8, 0x00, 0x3a, 0x9c, 0x00, 0x05, 0x1c, 0x3c, 0x84, 0x02, 0x01, 0xa7, 0xff, 0xe6, 0x1b, 0xac]
def tkcX1_leastOf_0 : List UInt8 := lkcX1_leastOf_0 ++ []
theorem drcX1_leastOf_0 : (cX1_leastOf).data.toList.drop 0 = lkcX1_leastOf_0 ++ [] := by decide +kernel
theorem dX1_leastOf_0 : decode cX1_leastOf 0 = .ok (.iconst 0, 1) := dec_3 (gB drcX1_leastOf_0 0 rfl rfl)
theorem dX1_leastOf_1 : decode cX1_leastOf 1 = .ok (.istore_n 1, 1) := dec_60 (gB drcX1_leastOf_0 1 rfl rfl)
theorem dX1_leastOf_2 : decode cX1_leastOf 2 = .ok (.iconst 1, 1) := dec_4 (gB drcX1_leastOf_0 2 rfl rfl)
theorem dX1_leastOf_3 : decode cX1_leastOf 3 = .ok (.istore_n 2, 1) := dec_61 (gB drcX1_leastOf_0 3 rfl rfl)
theorem dX1_leastOf_4 : decode cX1_leastOf 4 = .ok (.iload_n 2, 1) := dec_28 (gB drcX1_leastOf_0 4 rfl rfl)
theorem dX1_leastOf_5 : decode cX1_leastOf 5 = .ok (.aload_n 0, 1) := dec_42 (gB drcX1_leastOf_0 5 rfl rfl)
theorem dX1_leastOf_6 : decode cX1_leastOf 6 = .ok (.getfield 12, 3) := e_180 (x := 0) (y := 12) drcX1_leastOf_0 6 rfl rfl
theorem dX1_leastOf_9 : decode cX1_leastOf 9 = .ok (.if_icmp .ge 24, 3) := e_162 (x := 0) (y := 24) drcX1_leastOf_0 9 rfl rfl
theorem dX1_leastOf_12 : decode cX1_leastOf 12 = .ok (.aload_n 0, 1) := dec_42 (gB drcX1_leastOf_0 12 rfl rfl)
theorem dX1_leastOf_13 : decode cX1_leastOf 13 = .ok (.iload_n 2, 1) := dec_28 (gB drcX1_leastOf_0 13 rfl rfl)
theorem dX1_leastOf_14 : decode cX1_leastOf 14 = .ok (.iload_n 1, 1) := dec_27 (gB drcX1_leastOf_0 14 rfl rfl)
theorem dX1_leastOf_15 : decode cX1_leastOf 15 = .ok (.aload_n 0, 1) := dec_42 (gB drcX1_leastOf_0 15 rfl rfl)
theorem dX1_leastOf_16 : decode cX1_leastOf 16 = .ok (.getfield 12, 3) := e_180 (x := 0) (y := 12) drcX1_leastOf_0 16 rfl rfl
theorem dX1_leastOf_19 : decode cX1_leastOf 19 = .ok (.invokestatic 58, 3) := e_184 (x := 0) (y := 58) drcX1_leastOf_0 19 rfl rfl
theorem dX1_leastOf_22 : decode cX1_leastOf 22 = .ok (.ifCond .ge 5, 3) := e_156 (x := 0) (y := 5) drcX1_leastOf_0 22 rfl rfl
theorem dX1_leastOf_25 : decode cX1_leastOf 25 = .ok (.iload_n 2, 1) := dec_28 (gB drcX1_leastOf_0 25 rfl rfl)
theorem dX1_leastOf_26 : decode cX1_leastOf 26 = .ok (.istore_n 1, 1) := dec_60 (gB drcX1_leastOf_0 26 rfl rfl)
theorem dX1_leastOf_27 : decode cX1_leastOf 27 = .ok (.iinc 2 1, 3) := e_132 (x := 2) (y := 1) drcX1_leastOf_0 27 rfl rfl
theorem dX1_leastOf_30 : decode cX1_leastOf 30 = .ok (.goto (-26), 3) := e_167 (x := 255) (y := 230) drcX1_leastOf_0 30 rfl rfl
theorem dX1_leastOf_33 : decode cX1_leastOf 33 = .ok (.iload_n 1, 1) := dec_27 (gB drcX1_leastOf_0 33 rfl rfl)
theorem dX1_leastOf_34 : decode cX1_leastOf 34 = .ok (.ireturn, 1) := dec_172 (gB drcX1_leastOf_0 34 rfl rfl)
def lkcX1_firstUnlikeJoined_0 : List UInt8 := [0x03, 0x3d, 0x1c, 0x2a, 0xb4, 0x00, 0x0c, 0x2b, 0xb4, 0x00, 0x0c, 0x60, 0xa2, 0x00, 0x1a, 0x2a, 0x2b, 0x1c, 0xb8, 0x00, 0x4c, 0x2b, 0x2a, 0x1c, 0xb8, 0x00, 0x4c, 0x9f, 0x00, 0x05, 0x1c, 0xac, 0x84, 0x02, 0x01, 0xa7, 0xff, 0xdf, 0x02, 0xac]
def tkcX1_firstUnlikeJoined_0 : List UInt8 := lkcX1_firstUnlikeJoined_0 ++ []
theorem drcX1_firstUnlikeJoined_0 : (cX1_firstUnlikeJoined).data.toList.drop 0 = lkcX1_firstUnlikeJoined_0 ++ [] := by decide +kernel
theorem dX1_firstUnlikeJoined_0 : decode cX1_firstUnlikeJoined 0 = .ok (.iconst 0, 1) := dec_3 (gB drcX1_firstUnlikeJoined_0 0 rfl rfl)
theorem dX1_firstUnlikeJoined_1 : decode cX1_firstUnlikeJoined 1 = .ok (.istore_n 2, 1) := dec_61 (gB drcX1_firstUnlikeJoined_0 1 rfl rfl)
theorem dX1_firstUnlikeJoined_2 : decode cX1_firstUnlikeJoined 2 = .ok (.iload_n 2, 1) := dec_28 (gB drcX1_firstUnlikeJoined_0 2 rfl rfl)
theorem dX1_firstUnlikeJoined_3 : decode cX1_firstUnlikeJoined 3 = .ok (.aload_n 0, 1) := dec_42 (gB drcX1_firstUnlikeJoined_0 3 rfl rfl)
theorem dX1_firstUnlikeJoined_4 : decode cX1_firstUnlikeJoined 4 = .ok (.getfield 12, 3) := e_180 (x := 0) (y := 12) drcX1_firstUnlikeJoined_0 4 rfl rfl
theorem dX1_firstUnlikeJoined_7 : decode cX1_firstUnlikeJoined 7 = .ok (.aload_n 1, 1) := dec_43 (gB drcX1_firstUnlikeJoined_0 7 rfl rfl)
theorem dX1_firstUnlikeJoined_8 : decode cX1_firstUnlikeJoined 8 = .ok (.getfield 12, 3) := e_180 (x := 0) (y := 12) drcX1_firstUnlikeJoined_0 8 rfl rfl
theorem dX1_firstUnlikeJoined_11 : decode cX1_firstUnlikeJoined 11 = .ok (.iadd, 1) := dec_96 (gB drcX1_firstUnlikeJoined_0 11 rfl rfl)
theorem dX1_firstUnlikeJoined_12 : decode cX1_firstUnlikeJoined 12 = .ok (.if_icmp .ge 26, 3) := e_162 (x := 0) (y := 26) drcX1_firstUnlikeJoined_0 12 rfl rfl
theorem dX1_firstUnlikeJoined_15 : decode cX1_firstUnlikeJoined 15 = .ok (.aload_n 0, 1) := dec_42 (gB drcX1_firstUnlikeJoined_0 15 rfl rfl)
theorem dX1_firstUnlikeJoined_16 : decode cX1_firstUnlikeJoined 16 = .ok (.aload_n 1, 1) := dec_43 (gB drcX1_firstUnlikeJoined_0 16 rfl rfl)
theorem dX1_firstUnlikeJoined_17 : decode cX1_firstUnlikeJoined 17 = .ok (.iload_n 2, 1) := dec_28 (gB drcX1_firstUnlikeJoined_0 17 rfl rfl)
theorem dX1_firstUnlikeJoined_18 : decode cX1_firstUnlikeJoined 18 = .ok (.invokestatic 76, 3) := e_184 (x := 0) (y := 76) drcX1_firstUnlikeJoined_0 18 rfl rfl
theorem dX1_firstUnlikeJoined_21 : decode cX1_firstUnlikeJoined 21 = .ok (.aload_n 1, 1) := dec_43 (gB drcX1_firstUnlikeJoined_0 21 rfl rfl)
theorem dX1_firstUnlikeJoined_22 : decode cX1_firstUnlikeJoined 22 = .ok (.aload_n 0, 1) := dec_42 (gB drcX1_firstUnlikeJoined_0 22 rfl rfl)
theorem dX1_firstUnlikeJoined_23 : decode cX1_firstUnlikeJoined 23 = .ok (.iload_n 2, 1) := dec_28 (gB drcX1_firstUnlikeJoined_0 23 rfl rfl)
theorem dX1_firstUnlikeJoined_24 : decode cX1_firstUnlikeJoined 24 = .ok (.invokestatic 76, 3) := e_184 (x := 0) (y := 76) drcX1_firstUnlikeJoined_0 24 rfl rfl
theorem dX1_firstUnlikeJoined_27 : decode cX1_firstUnlikeJoined 27 = .ok (.if_icmp .eq 5, 3) := e_159 (x := 0) (y := 5) drcX1_firstUnlikeJoined_0 27 rfl rfl
theorem dX1_firstUnlikeJoined_30 : decode cX1_firstUnlikeJoined 30 = .ok (.iload_n 2, 1) := dec_28 (gB drcX1_firstUnlikeJoined_0 30 rfl rfl)
theorem dX1_firstUnlikeJoined_31 : decode cX1_firstUnlikeJoined 31 = .ok (.ireturn, 1) := dec_172 (gB drcX1_firstUnlikeJoined_0 31 rfl rfl)
theorem dX1_firstUnlikeJoined_32 : decode cX1_firstUnlikeJoined 32 = .ok (.iinc 2 1, 3) := e_132 (x := 2) (y := 1) drcX1_firstUnlikeJoined_0 32 rfl rfl
theorem dX1_firstUnlikeJoined_35 : decode cX1_firstUnlikeJoined 35 = .ok (.goto (-33), 3) := e_167 (x := 255) (y := 223) drcX1_firstUnlikeJoined_0 35 rfl rfl
theorem dX1_firstUnlikeJoined_38 : decode cX1_firstUnlikeJoined 38 = .ok (.iconst (-1), 1) := dec_2 (gB drcX1_firstUnlikeJoined_0 38 rfl rfl)
theorem dX1_firstUnlikeJoined_39 : decode cX1_firstUnlikeJoined 39 = .ok (.ireturn, 1) := dec_172 (gB drcX1_firstUnlikeJoined_0 39 rfl rfl)
def lkcX1_isUpJoined_0 : List UInt8 := [0x1c, 0x2a, 0xb4, 0x00, 0x0c, 0xa2, 0x00, 0x0b, 0x2a, 0x1c, 0xb6, 0x00, 0x12, 0xa7, 0x00, 0x0d, 0x2b, 0x1c, 0x2a, 0xb4, 0x00, 0x0c, 0x64, 0xb6, 0x00, 0x12, 0xac]
def tkcX1_isUpJoined_0 : List UInt8 := lkcX1_isUpJoined_0 ++ []
theorem drcX1_isUpJoined_0 : (cX1_isUpJoined).data.toList.drop 0 = lkcX1_isUpJoined_0 ++ [] := by decide +kernel
theorem dX1_isUpJoined_0 : decode cX1_isUpJoined 0 = .ok (.iload_n 2, 1) := dec_28 (gB drcX1_isUpJoined_0 0 rfl rfl)
theorem dX1_isUpJoined_1 : decode cX1_isUpJoined 1 = .ok (.aload_n 0, 1) := dec_42 (gB drcX1_isUpJoined_0 1 rfl rfl)
theorem dX1_isUpJoined_2 : decode cX1_isUpJoined 2 = .ok (.getfield 12, 3) := e_180 (x := 0) (y := 12) drcX1_isUpJoined_0 2 rfl rfl
theorem dX1_isUpJoined_5 : decode cX1_isUpJoined 5 = .ok (.if_icmp .ge 11, 3) := e_162 (x := 0) (y := 11) drcX1_isUpJoined_0 5 rfl rfl
theorem dX1_isUpJoined_8 : decode cX1_isUpJoined 8 = .ok (.aload_n 0, 1) := dec_42 (gB drcX1_isUpJoined_0 8 rfl rfl)
theorem dX1_isUpJoined_9 : decode cX1_isUpJoined 9 = .ok (.iload_n 2, 1) := dec_28 (gB drcX1_isUpJoined_0 9 rfl rfl)
theorem dX1_isUpJoined_10 : decode cX1_isUpJoined 10 = .ok (.invokevirtual 18, 3) := e_182 (x := 0) (y := 18) drcX1_isUpJoined_0 10 rfl rfl
theorem dX1_isUpJoined_13 : decode cX1_isUpJoined 13 = .ok (.goto 13, 3) := e_167 (x := 0) (y := 13) drcX1_isUpJoined_0 13 rfl rfl
theorem dX1_isUpJoined_16 : decode cX1_isUpJoined 16 = .ok (.aload_n 1, 1) := dec_43 (gB drcX1_isUpJoined_0 16 rfl rfl)
theorem dX1_isUpJoined_17 : decode cX1_isUpJoined 17 = .ok (.iload_n 2, 1) := dec_28 (gB drcX1_isUpJoined_0 17 rfl rfl)
theorem dX1_isUpJoined_18 : decode cX1_isUpJoined 18 = .ok (.aload_n 0, 1) := dec_42 (gB drcX1_isUpJoined_0 18 rfl rfl)
theorem dX1_isUpJoined_19 : decode cX1_isUpJoined 19 = .ok (.getfield 12, 3) := e_180 (x := 0) (y := 12) drcX1_isUpJoined_0 19 rfl rfl
theorem dX1_isUpJoined_22 : decode cX1_isUpJoined 22 = .ok (.isub, 1) := dec_100 (gB drcX1_isUpJoined_0 22 rfl rfl)
theorem dX1_isUpJoined_23 : decode cX1_isUpJoined 23 = .ok (.invokevirtual 18, 3) := e_182 (x := 0) (y := 18) drcX1_isUpJoined_0 23 rfl rfl
theorem dX1_isUpJoined_26 : decode cX1_isUpJoined 26 = .ok (.ireturn, 1) := dec_172 (gB drcX1_isUpJoined_0 26 rfl rfl)
def lkcX2_init_0 : List UInt8 := [0x2a, 0xb7, 0x00, 0x03, 0x2a, 0xbb, 0x00, 0x09, 0x59, 0xb7, 0x00, 0x0b, 0xb5, 0x00, 0x0c, 0x2a, 0xbb, 0x00, 0x09, 0x59, 0xb7, 0x00, 0x0b, 0xb5, 0x00, 0x12, 0x2a, 0x10, 0x41, 0xbc, 0x04, 0xb5, 0x00, 0x15, 0xb1]
def tkcX2_init_0 : List UInt8 := lkcX2_init_0 ++ []
theorem drcX2_init_0 : (cX2_init).data.toList.drop 0 = lkcX2_init_0 ++ [] := by decide +kernel
theorem dX2_init_0 : decode cX2_init 0 = .ok (.aload_n 0, 1) := dec_42 (gB drcX2_init_0 0 rfl rfl)
theorem dX2_init_1 : decode cX2_init 1 = .ok (.invokespecial 3, 3) := e_183 (x := 0) (y := 3) drcX2_init_0 1 rfl rfl
theorem dX2_init_4 : decode cX2_init 4 = .ok (.aload_n 0, 1) := dec_42 (gB drcX2_init_0 4 rfl rfl)
theorem dX2_init_5 : decode cX2_init 5 = .ok (.new 9, 3) := e_187 (x := 0) (y := 9) drcX2_init_0 5 rfl rfl
theorem dX2_init_8 : decode cX2_init 8 = .ok (.dup, 1) := dec_89 (gB drcX2_init_0 8 rfl rfl)
theorem dX2_init_9 : decode cX2_init 9 = .ok (.invokespecial 11, 3) := e_183 (x := 0) (y := 11) drcX2_init_0 9 rfl rfl
theorem dX2_init_12 : decode cX2_init 12 = .ok (.putfield 12, 3) := e_181 (x := 0) (y := 12) drcX2_init_0 12 rfl rfl
theorem dX2_init_15 : decode cX2_init 15 = .ok (.aload_n 0, 1) := dec_42 (gB drcX2_init_0 15 rfl rfl)
theorem dX2_init_16 : decode cX2_init 16 = .ok (.new 9, 3) := e_187 (x := 0) (y := 9) drcX2_init_0 16 rfl rfl
theorem dX2_init_19 : decode cX2_init 19 = .ok (.dup, 1) := dec_89 (gB drcX2_init_0 19 rfl rfl)
theorem dX2_init_20 : decode cX2_init 20 = .ok (.invokespecial 11, 3) := e_183 (x := 0) (y := 11) drcX2_init_0 20 rfl rfl
theorem dX2_init_23 : decode cX2_init 23 = .ok (.putfield 18, 3) := e_181 (x := 0) (y := 18) drcX2_init_0 23 rfl rfl
theorem dX2_init_26 : decode cX2_init 26 = .ok (.aload_n 0, 1) := dec_42 (gB drcX2_init_0 26 rfl rfl)
theorem dX2_init_27 : decode cX2_init 27 = .ok (.bipush 65, 2) := e_16 (x := 65) drcX2_init_0 27 rfl rfl
theorem dX2_init_29 : decode cX2_init 29 = .ok (.newarray .boolean, 2) := by decide +kernel
theorem dX2_init_31 : decode cX2_init 31 = .ok (.putfield 21, 3) := e_181 (x := 0) (y := 21) drcX2_init_0 31 rfl rfl
theorem dX2_init_34 : decode cX2_init 34 = .ok (.return_, 1) := dec_177 (gB drcX2_init_0 34 rfl rfl)
def lkcX2_take_0 : List UInt8 := [0x2a, 0xb4, 0x00, 0x0c, 0x1b, 0xb6, 0x00, 0x19, 0x2a, 0xb4, 0x00, 0x12, 0x1c, 0xb6, 0x00, 0x19, 0xb1]
def tkcX2_take_0 : List UInt8 := lkcX2_take_0 ++ []
theorem drcX2_take_0 : (cX2_take).data.toList.drop 0 = lkcX2_take_0 ++ [] := by decide +kernel
theorem dX2_take_0 : decode cX2_take 0 = .ok (.aload_n 0, 1) := dec_42 (gB drcX2_take_0 0 rfl rfl)
theorem dX2_take_1 : decode cX2_take 1 = .ok (.getfield 12, 3) := e_180 (x := 0) (y := 12) drcX2_take_0 1 rfl rfl
theorem dX2_take_4 : decode cX2_take 4 = .ok (.iload_n 1, 1) := dec_27 (gB drcX2_take_0 4 rfl rfl)
theorem dX2_take_5 : decode cX2_take 5 = .ok (.invokevirtual 25, 3) := e_182 (x := 0) (y := 25) drcX2_take_0 5 rfl rfl
theorem dX2_take_8 : decode cX2_take 8 = .ok (.aload_n 0, 1) := dec_42 (gB drcX2_take_0 8 rfl rfl)
theorem dX2_take_9 : decode cX2_take 9 = .ok (.getfield 18, 3) := e_180 (x := 0) (y := 18) drcX2_take_0 9 rfl rfl
theorem dX2_take_12 : decode cX2_take 12 = .ok (.iload_n 2, 1) := dec_28 (gB drcX2_take_0 12 rfl rfl)
theorem dX2_take_13 : decode cX2_take 13 = .ok (.invokevirtual 25, 3) := e_182 (x := 0) (y := 25) drcX2_take_0 13 rfl rfl
theorem dX2_take_16 : decode cX2_take 16 = .ok (.return_, 1) := dec_177 (gB drcX2_take_0 16 rfl rfl)
def lkcX2_keepsApart_0 : List UInt8 := [0x2a, 0xb4, 0x00, 0x0c, 0x2a, 0xb4, 0x00, 0x12, 0xb8, 0x00, 0x1d, 0x02, 0x9f, 0x00, 0x07, 0x04, 0xa7, 0x00, 0x04, 0x03, 0xac]
def tkcX2_keepsApart_0 : List UInt8 := lkcX2_keepsApart_0 ++ []
theorem drcX2_keepsApart_0 : (cX2_keepsApart).data.toList.drop 0 = lkcX2_keepsApart_0 ++ [] := by decide +kernel
theorem dX2_keepsApart_0 : decode cX2_keepsApart 0 = .ok (.aload_n 0, 1) := dec_42 (gB drcX2_keepsApart_0 0 rfl rfl)
theorem dX2_keepsApart_1 : decode cX2_keepsApart 1 = .ok (.getfield 12, 3) := e_180 (x := 0) (y := 12) drcX2_keepsApart_0 1 rfl rfl
theorem dX2_keepsApart_4 : decode cX2_keepsApart 4 = .ok (.aload_n 0, 1) := dec_42 (gB drcX2_keepsApart_0 4 rfl rfl)
theorem dX2_keepsApart_5 : decode cX2_keepsApart 5 = .ok (.getfield 18, 3) := e_180 (x := 0) (y := 18) drcX2_keepsApart_0 5 rfl rfl
theorem dX2_keepsApart_8 : decode cX2_keepsApart 8 = .ok (.invokestatic 29, 3) := e_184 (x := 0) (y := 29) drcX2_keepsApart_0 8 rfl rfl
theorem dX2_keepsApart_11 : decode cX2_keepsApart 11 = .ok (.iconst (-1), 1) := dec_2 (gB drcX2_keepsApart_0 11 rfl rfl)
theorem dX2_keepsApart_12 : decode cX2_keepsApart 12 = .ok (.if_icmp .eq 7, 3) := e_159 (x := 0) (y := 7) drcX2_keepsApart_0 12 rfl rfl
theorem dX2_keepsApart_15 : decode cX2_keepsApart 15 = .ok (.iconst 1, 1) := dec_4 (gB drcX2_keepsApart_0 15 rfl rfl)
theorem dX2_keepsApart_16 : decode cX2_keepsApart 16 = .ok (.goto 4, 3) := e_167 (x := 0) (y := 4) drcX2_keepsApart_0 16 rfl rfl
theorem dX2_keepsApart_19 : decode cX2_keepsApart 19 = .ok (.iconst 0, 1) := dec_3 (gB drcX2_keepsApart_0 19 rfl rfl)
theorem dX2_keepsApart_20 : decode cX2_keepsApart 20 = .ok (.ireturn, 1) := dec_172 (gB drcX2_keepsApart_0 20 rfl rfl)
def lkcX2_imageLength_0 : List UInt8 := [0x2b, 0xb8, 0x00, 0x23, 0x3d, 0x2b, 0xb4, 0x00, 0x27, 0x1c, 0x64, 0x2a, 0xb4, 0x00, 0x0c, 0xb4, 0x00, 0x27, 0x68, 0x1c, 0x2a, 0xb4, 0x00, 0x12, 0xb4, 0x00, 0x27, 0x68, 0x60, 0xac]
def tkcX2_imageLength_0 : List UInt8 := lkcX2_imageLength_0 ++ []
theorem drcX2_imageLength_0 : (cX2_imageLength).data.toList.drop 0 = lkcX2_imageLength_0 ++ [] := by decide +kernel
theorem dX2_imageLength_0 : decode cX2_imageLength 0 = .ok (.aload_n 1, 1) := dec_43 (gB drcX2_imageLength_0 0 rfl rfl)
theorem dX2_imageLength_1 : decode cX2_imageLength 1 = .ok (.invokestatic 35, 3) := e_184 (x := 0) (y := 35) drcX2_imageLength_0 1 rfl rfl
theorem dX2_imageLength_4 : decode cX2_imageLength 4 = .ok (.istore_n 2, 1) := dec_61 (gB drcX2_imageLength_0 4 rfl rfl)
theorem dX2_imageLength_5 : decode cX2_imageLength 5 = .ok (.aload_n 1, 1) := dec_43 (gB drcX2_imageLength_0 5 rfl rfl)
theorem dX2_imageLength_6 : decode cX2_imageLength 6 = .ok (.getfield 39, 3) := e_180 (x := 0) (y := 39) drcX2_imageLength_0 6 rfl rfl
theorem dX2_imageLength_9 : decode cX2_imageLength 9 = .ok (.iload_n 2, 1) := dec_28 (gB drcX2_imageLength_0 9 rfl rfl)
theorem dX2_imageLength_10 : decode cX2_imageLength 10 = .ok (.isub, 1) := dec_100 (gB drcX2_imageLength_0 10 rfl rfl)
theorem dX2_imageLength_11 : decode cX2_imageLength 11 = .ok (.aload_n 0, 1) := dec_42 (gB drcX2_imageLength_0 11 rfl rfl)
theorem dX2_imageLength_12 : decode cX2_imageLength 12 = .ok (.getfield 12, 3) := e_180 (x := 0) (y := 12) drcX2_imageLength_0 12 rfl rfl
theorem dX2_imageLength_15 : decode cX2_imageLength 15 = .ok (.getfield 39, 3) := e_180 (x := 0) (y := 39) drcX2_imageLength_0 15 rfl rfl
theorem dX2_imageLength_18 : decode cX2_imageLength 18 = .ok (.imul, 1) := dec_104 (gB drcX2_imageLength_0 18 rfl rfl)
theorem dX2_imageLength_19 : decode cX2_imageLength 19 = .ok (.iload_n 2, 1) := dec_28 (gB drcX2_imageLength_0 19 rfl rfl)
theorem dX2_imageLength_20 : decode cX2_imageLength 20 = .ok (.aload_n 0, 1) := dec_42 (gB drcX2_imageLength_0 20 rfl rfl)
theorem dX2_imageLength_21 : decode cX2_imageLength 21 = .ok (.getfield 18, 3) := e_180 (x := 0) (y := 18) drcX2_imageLength_0 21 rfl rfl
theorem dX2_imageLength_24 : decode cX2_imageLength 24 = .ok (.getfield 39, 3) := e_180 (x := 0) (y := 39) drcX2_imageLength_0 24 rfl rfl
theorem dX2_imageLength_27 : decode cX2_imageLength 27 = .ok (.imul, 1) := dec_104 (gB drcX2_imageLength_0 27 rfl rfl)
theorem dX2_imageLength_28 : decode cX2_imageLength 28 = .ok (.iadd, 1) := dec_96 (gB drcX2_imageLength_0 28 rfl rfl)
theorem dX2_imageLength_29 : decode cX2_imageLength 29 = .ok (.ireturn, 1) := dec_172 (gB drcX2_imageLength_0 29 rfl rfl)
def lkcX2_layImage_0 : List UInt8 := [0x2c, 0xb6, 0x00, 0x2b, 0x03, 0x3e, 0x1d, 0x2b, 0xb4, 0x00, 0x27, 0xa2, 0x00, 0x2a, 0x2b, 0x1d, 0xb6, 0x00, 0x2e, 0x99, 0x00, 0x0a, 0x2a, 0xb4, 0x00, 0x12, 0xa7, 0x00, 0x07, 0x2a, 0xb4, 0x00, 0x0c, 0x3a, 0x04, 0x2c, 0x19, 0x04, 0x03, 0x19, 0x04, 0xb4, 0x00, 0x27, 0xb6, 0x00, 0x32, 0x84, 0x03, 0x01, 0xa7, 0xff, 0xd4, 0xb1]
def tkcX2_layImage_0 : List UInt8 := lkcX2_layImage_0 ++ []
theorem drcX2_layImage_0 : (cX2_layImage).data.toList.drop 0 = lkcX2_layImage_0 ++ [] := by decide +kernel
theorem dX2_layImage_0 : decode cX2_layImage 0 = .ok (.aload_n 2, 1) := dec_44 (gB drcX2_layImage_0 0 rfl rfl)
theorem dX2_layImage_1 : decode cX2_layImage 1 = .ok (.invokevirtual 43, 3) := e_182 (x := 0) (y := 43) drcX2_layImage_0 1 rfl rfl
theorem dX2_layImage_4 : decode cX2_layImage 4 = .ok (.iconst 0, 1) := dec_3 (gB drcX2_layImage_0 4 rfl rfl)
theorem dX2_layImage_5 : decode cX2_layImage 5 = .ok (.istore_n 3, 1) := dec_62 (gB drcX2_layImage_0 5 rfl rfl)
theorem dX2_layImage_6 : decode cX2_layImage 6 = .ok (.iload_n 3, 1) := dec_29 (gB drcX2_layImage_0 6 rfl rfl)
theorem dX2_layImage_7 : decode cX2_layImage 7 = .ok (.aload_n 1, 1) := dec_43 (gB drcX2_layImage_0 7 rfl rfl)
theorem dX2_layImage_8 : decode cX2_layImage 8 = .ok (.getfield 39, 3) := e_180 (x := 0) (y := 39) drcX2_layImage_0 8 rfl rfl
theorem dX2_layImage_11 : decode cX2_layImage 11 = .ok (.if_icmp .ge 42, 3) := e_162 (x := 0) (y := 42) drcX2_layImage_0 11 rfl rfl
theorem dX2_layImage_14 : decode cX2_layImage 14 = .ok (.aload_n 1, 1) := dec_43 (gB drcX2_layImage_0 14 rfl rfl)
theorem dX2_layImage_15 : decode cX2_layImage 15 = .ok (.iload_n 3, 1) := dec_29 (gB drcX2_layImage_0 15 rfl rfl)
theorem dX2_layImage_16 : decode cX2_layImage 16 = .ok (.invokevirtual 46, 3) := e_182 (x := 0) (y := 46) drcX2_layImage_0 16 rfl rfl
theorem dX2_layImage_19 : decode cX2_layImage 19 = .ok (.ifCond .eq 10, 3) := e_153 (x := 0) (y := 10) drcX2_layImage_0 19 rfl rfl
theorem dX2_layImage_22 : decode cX2_layImage 22 = .ok (.aload_n 0, 1) := dec_42 (gB drcX2_layImage_0 22 rfl rfl)
theorem dX2_layImage_23 : decode cX2_layImage 23 = .ok (.getfield 18, 3) := e_180 (x := 0) (y := 18) drcX2_layImage_0 23 rfl rfl
theorem dX2_layImage_26 : decode cX2_layImage 26 = .ok (.goto 7, 3) := e_167 (x := 0) (y := 7) drcX2_layImage_0 26 rfl rfl
theorem dX2_layImage_29 : decode cX2_layImage 29 = .ok (.aload_n 0, 1) := dec_42 (gB drcX2_layImage_0 29 rfl rfl)
theorem dX2_layImage_30 : decode cX2_layImage 30 = .ok (.getfield 12, 3) := e_180 (x := 0) (y := 12) drcX2_layImage_0 30 rfl rfl
theorem dX2_layImage_33 : decode cX2_layImage 33 = .ok (.astore 4, 2) := e_58 (x := 4) drcX2_layImage_0 33 rfl rfl
theorem dX2_layImage_35 : decode cX2_layImage 35 = .ok (.aload_n 2, 1) := dec_44 (gB drcX2_layImage_0 35 rfl rfl)
theorem dX2_layImage_36 : decode cX2_layImage 36 = .ok (.aload 4, 2) := e_25 (x := 4) drcX2_layImage_0 36 rfl rfl
theorem dX2_layImage_38 : decode cX2_layImage 38 = .ok (.iconst 0, 1) := dec_3 (gB drcX2_layImage_0 38 rfl rfl)
theorem dX2_layImage_39 : decode cX2_layImage 39 = .ok (.aload 4, 2) := e_25 (x := 4) drcX2_layImage_0 39 rfl rfl
theorem dX2_layImage_41 : decode cX2_layImage 41 = .ok (.getfield 39, 3) := e_180 (x := 0) (y := 39) drcX2_layImage_0 41 rfl rfl
theorem dX2_layImage_44 : decode cX2_layImage 44 = .ok (.invokevirtual 50, 3) := e_182 (x := 0) (y := 50) drcX2_layImage_0 44 rfl rfl
theorem dX2_layImage_47 : decode cX2_layImage 47 = .ok (.iinc 3 1, 3) := e_132 (x := 3) (y := 1) drcX2_layImage_0 47 rfl rfl
theorem dX2_layImage_50 : decode cX2_layImage 50 = .ok (.goto (-44), 3) := e_167 (x := 255) (y := 212) drcX2_layImage_0 50 rfl rfl
theorem dX2_layImage_53 : decode cX2_layImage 53 = .ok (.return_, 1) := dec_177 (gB drcX2_layImage_0 53 rfl rfl)
def lkcX2_layOrigin_0 : List UInt8 := [0x2a, 0x2b, 0xb6, 0x00, 0x36, 0x2a, 0x03, 0xb6, 0x00, 0x3a, 0x9a, 0x00, 0x05, 0x03, 0xac, 0x2c, 0xb6, 0x00, 0x2b, 0x03, 0x3e, 0x03, 0x36, 0x04, 0x15, 0x04, 0x2b, 0xb4, 0x00, 0x27, 0xa2, 0x00, 0x44, 0x15, 0x04, 0x1d, 0xa0, 0x00, 0x38, 0x2a, 0x2b, 0x15, 0x04, 0x2a, 0xb4, 0x00, 0x0c, 0xb6, 0x00, 0x3d, 0x9a, 0x00, 0x07, 0x04, 0xa7, 0x00, 0x04, 0x03, 0x36, 0x05, 0x2c, 0x15, 0x05, 0xb6]
def lkcX2_layOrigin_1 : List UInt8 := [0x00, 0x41, 0x15, 0x04, 0x15, 0x05, 0x99, 0x00, 0x0d, 0x2a, 0xb4, 0x00, 0x12, 0xb4, 0x00, 0x27, 0xa7, 0x00, 0x0a, 0x2a, 0xb4, 0x00, 0x0c, 0xb4, 0x00, 0x27, 0x60, 0x3e, 0x84, 0x04, 0x01, 0xa7, 0xff, 0xb9, 0x04, 0xac]
def tkcX2_layOrigin_1 : List UInt8 := lkcX2_layOrigin_1 ++ []
def tkcX2_layOrigin_0 : List UInt8 := lkcX2_layOrigin_0 ++ tkcX2_layOrigin_1
theorem drcX2_layOrigin_0 : (cX2_layOrigin).data.toList.drop 0 = lkcX2_layOrigin_0 ++ tkcX2_layOrigin_1 := by decide +kernel
theorem drcX2_layOrigin_1 : (cX2_layOrigin).data.toList.drop 64 = lkcX2_layOrigin_1 ++ [] := dr_step drcX2_layOrigin_0 rfl
theorem dX2_layOrigin_0 : decode cX2_layOrigin 0 = .ok (.aload_n 0, 1) := dec_42 (gB drcX2_layOrigin_0 0 rfl rfl)
theorem dX2_layOrigin_1 : decode cX2_layOrigin 1 = .ok (.aload_n 1, 1) := dec_43 (gB drcX2_layOrigin_0 1 rfl rfl)
theorem dX2_layOrigin_2 : decode cX2_layOrigin 2 = .ok (.invokevirtual 54, 3) := e_182 (x := 0) (y := 54) drcX2_layOrigin_0 2 rfl rfl
theorem dX2_layOrigin_5 : decode cX2_layOrigin 5 = .ok (.aload_n 0, 1) := dec_42 (gB drcX2_layOrigin_0 5 rfl rfl)
theorem dX2_layOrigin_6 : decode cX2_layOrigin 6 = .ok (.iconst 0, 1) := dec_3 (gB drcX2_layOrigin_0 6 rfl rfl)
theorem dX2_layOrigin_7 : decode cX2_layOrigin 7 = .ok (.invokevirtual 58, 3) := e_182 (x := 0) (y := 58) drcX2_layOrigin_0 7 rfl rfl
theorem dX2_layOrigin_10 : decode cX2_layOrigin 10 = .ok (.ifCond .ne 5, 3) := e_154 (x := 0) (y := 5) drcX2_layOrigin_0 10 rfl rfl
theorem dX2_layOrigin_13 : decode cX2_layOrigin 13 = .ok (.iconst 0, 1) := dec_3 (gB drcX2_layOrigin_0 13 rfl rfl)
theorem dX2_layOrigin_14 : decode cX2_layOrigin 14 = .ok (.ireturn, 1) := dec_172 (gB drcX2_layOrigin_0 14 rfl rfl)
theorem dX2_layOrigin_15 : decode cX2_layOrigin 15 = .ok (.aload_n 2, 1) := dec_44 (gB drcX2_layOrigin_0 15 rfl rfl)
theorem dX2_layOrigin_16 : decode cX2_layOrigin 16 = .ok (.invokevirtual 43, 3) := e_182 (x := 0) (y := 43) drcX2_layOrigin_0 16 rfl rfl
theorem dX2_layOrigin_19 : decode cX2_layOrigin 19 = .ok (.iconst 0, 1) := dec_3 (gB drcX2_layOrigin_0 19 rfl rfl)
theorem dX2_layOrigin_20 : decode cX2_layOrigin 20 = .ok (.istore_n 3, 1) := dec_62 (gB drcX2_layOrigin_0 20 rfl rfl)
theorem dX2_layOrigin_21 : decode cX2_layOrigin 21 = .ok (.iconst 0, 1) := dec_3 (gB drcX2_layOrigin_0 21 rfl rfl)
theorem dX2_layOrigin_22 : decode cX2_layOrigin 22 = .ok (.istore 4, 2) := e_54 (x := 4) drcX2_layOrigin_0 22 rfl rfl
theorem dX2_layOrigin_24 : decode cX2_layOrigin 24 = .ok (.iload 4, 2) := e_21 (x := 4) drcX2_layOrigin_0 24 rfl rfl
theorem dX2_layOrigin_26 : decode cX2_layOrigin 26 = .ok (.aload_n 1, 1) := dec_43 (gB drcX2_layOrigin_0 26 rfl rfl)
theorem dX2_layOrigin_27 : decode cX2_layOrigin 27 = .ok (.getfield 39, 3) := e_180 (x := 0) (y := 39) drcX2_layOrigin_0 27 rfl rfl
theorem dX2_layOrigin_30 : decode cX2_layOrigin 30 = .ok (.if_icmp .ge 68, 3) := e_162 (x := 0) (y := 68) drcX2_layOrigin_0 30 rfl rfl
theorem dX2_layOrigin_33 : decode cX2_layOrigin 33 = .ok (.iload 4, 2) := e_21 (x := 4) drcX2_layOrigin_0 33 rfl rfl
theorem dX2_layOrigin_35 : decode cX2_layOrigin 35 = .ok (.iload_n 3, 1) := dec_29 (gB drcX2_layOrigin_0 35 rfl rfl)
theorem dX2_layOrigin_36 : decode cX2_layOrigin 36 = .ok (.if_icmp .ne 56, 3) := e_160 (x := 0) (y := 56) drcX2_layOrigin_0 36 rfl rfl
theorem dX2_layOrigin_39 : decode cX2_layOrigin 39 = .ok (.aload_n 0, 1) := dec_42 (gB drcX2_layOrigin_0 39 rfl rfl)
theorem dX2_layOrigin_40 : decode cX2_layOrigin 40 = .ok (.aload_n 1, 1) := dec_43 (gB drcX2_layOrigin_0 40 rfl rfl)
theorem dX2_layOrigin_41 : decode cX2_layOrigin 41 = .ok (.iload 4, 2) := e_21 (x := 4) drcX2_layOrigin_0 41 rfl rfl
theorem dX2_layOrigin_43 : decode cX2_layOrigin 43 = .ok (.aload_n 0, 1) := dec_42 (gB drcX2_layOrigin_0 43 rfl rfl)
theorem dX2_layOrigin_44 : decode cX2_layOrigin 44 = .ok (.getfield 12, 3) := e_180 (x := 0) (y := 12) drcX2_layOrigin_0 44 rfl rfl
theorem dX2_layOrigin_47 : decode cX2_layOrigin 47 = .ok (.invokevirtual 61, 3) := e_182 (x := 0) (y := 61) drcX2_layOrigin_0 47 rfl rfl
theorem dX2_layOrigin_50 : decode cX2_layOrigin 50 = .ok (.ifCond .ne 7, 3) := e_154 (x := 0) (y := 7) drcX2_layOrigin_0 50 rfl rfl
theorem dX2_layOrigin_53 : decode cX2_layOrigin 53 = .ok (.iconst 1, 1) := dec_4 (gB drcX2_layOrigin_0 53 rfl rfl)
theorem dX2_layOrigin_54 : decode cX2_layOrigin 54 = .ok (.goto 4, 3) := e_167 (x := 0) (y := 4) drcX2_layOrigin_0 54 rfl rfl
theorem dX2_layOrigin_57 : decode cX2_layOrigin 57 = .ok (.iconst 0, 1) := dec_3 (gB drcX2_layOrigin_0 57 rfl rfl)
theorem dX2_layOrigin_58 : decode cX2_layOrigin 58 = .ok (.istore 5, 2) := e_54 (x := 5) drcX2_layOrigin_0 58 rfl rfl
theorem dX2_layOrigin_60 : decode cX2_layOrigin 60 = .ok (.aload_n 2, 1) := dec_44 (gB drcX2_layOrigin_0 60 rfl rfl)
theorem dX2_layOrigin_61 : decode cX2_layOrigin 61 = .ok (.iload 5, 2) := e_21 (x := 5) drcX2_layOrigin_0 61 rfl rfl
theorem dX2_layOrigin_63 : decode cX2_layOrigin 63 = .ok (.invokevirtual 65, 3) := dec_182 (a := 0) (b := 65) (gB drcX2_layOrigin_0 63 rfl rfl) (gB drcX2_layOrigin_1 0 rfl rfl) (gB drcX2_layOrigin_1 1 rfl rfl)
theorem dX2_layOrigin_66 : decode cX2_layOrigin 66 = .ok (.iload 4, 2) := e_21 (x := 4) drcX2_layOrigin_1 2 rfl rfl
theorem dX2_layOrigin_68 : decode cX2_layOrigin 68 = .ok (.iload 5, 2) := e_21 (x := 5) drcX2_layOrigin_1 4 rfl rfl
theorem dX2_layOrigin_70 : decode cX2_layOrigin 70 = .ok (.ifCond .eq 13, 3) := e_153 (x := 0) (y := 13) drcX2_layOrigin_1 6 rfl rfl
theorem dX2_layOrigin_73 : decode cX2_layOrigin 73 = .ok (.aload_n 0, 1) := dec_42 (gB drcX2_layOrigin_1 9 rfl rfl)
theorem dX2_layOrigin_74 : decode cX2_layOrigin 74 = .ok (.getfield 18, 3) := e_180 (x := 0) (y := 18) drcX2_layOrigin_1 10 rfl rfl
theorem dX2_layOrigin_77 : decode cX2_layOrigin 77 = .ok (.getfield 39, 3) := e_180 (x := 0) (y := 39) drcX2_layOrigin_1 13 rfl rfl
theorem dX2_layOrigin_80 : decode cX2_layOrigin 80 = .ok (.goto 10, 3) := e_167 (x := 0) (y := 10) drcX2_layOrigin_1 16 rfl rfl
theorem dX2_layOrigin_83 : decode cX2_layOrigin 83 = .ok (.aload_n 0, 1) := dec_42 (gB drcX2_layOrigin_1 19 rfl rfl)
theorem dX2_layOrigin_84 : decode cX2_layOrigin 84 = .ok (.getfield 12, 3) := e_180 (x := 0) (y := 12) drcX2_layOrigin_1 20 rfl rfl
theorem dX2_layOrigin_87 : decode cX2_layOrigin 87 = .ok (.getfield 39, 3) := e_180 (x := 0) (y := 39) drcX2_layOrigin_1 23 rfl rfl
theorem dX2_layOrigin_90 : decode cX2_layOrigin 90 = .ok (.iadd, 1) := dec_96 (gB drcX2_layOrigin_1 26 rfl rfl)
theorem dX2_layOrigin_91 : decode cX2_layOrigin 91 = .ok (.istore_n 3, 1) := dec_62 (gB drcX2_layOrigin_1 27 rfl rfl)
theorem dX2_layOrigin_92 : decode cX2_layOrigin 92 = .ok (.iinc 4 1, 3) := e_132 (x := 4) (y := 1) drcX2_layOrigin_1 28 rfl rfl
theorem dX2_layOrigin_95 : decode cX2_layOrigin 95 = .ok (.goto (-71), 3) := e_167 (x := 255) (y := 185) drcX2_layOrigin_1 31 rfl rfl
theorem dX2_layOrigin_98 : decode cX2_layOrigin 98 = .ok (.iconst 1, 1) := dec_4 (gB drcX2_layOrigin_1 34 rfl rfl)
theorem dX2_layOrigin_99 : decode cX2_layOrigin 99 = .ok (.ireturn, 1) := dec_172 (gB drcX2_layOrigin_1 35 rfl rfl)
def lkcX2_markImages_0 : List UInt8 := [0x2a, 0xb4, 0x00, 0x15, 0xbe, 0x04, 0x64, 0x3d, 0x1c, 0x9b, 0x00, 0x36, 0x2a, 0xb4, 0x00, 0x15, 0x1c, 0x1c, 0x2b, 0xb4, 0x00, 0x27, 0x9f, 0x00, 0x1d, 0x2a, 0x2b, 0x1c, 0x2a, 0xb4, 0x00, 0x0c, 0xb6, 0x00, 0x3d, 0x9a, 0x00, 0x10, 0x2a, 0x2b, 0x1c, 0x2a, 0xb4, 0x00, 0x12, 0xb6, 0x00, 0x3d, 0x99, 0x00, 0x07, 0x04, 0xa7, 0x00, 0x04, 0x03, 0x54, 0x84, 0x02, 0xff, 0xa7, 0xff, 0xcc, 0xb1]
def tkcX2_markImages_0 : List UInt8 := lkcX2_markImages_0 ++ []
theorem drcX2_markImages_0 : (cX2_markImages).data.toList.drop 0 = lkcX2_markImages_0 ++ [] := by decide +kernel
theorem dX2_markImages_0 : decode cX2_markImages 0 = .ok (.aload_n 0, 1) := dec_42 (gB drcX2_markImages_0 0 rfl rfl)
theorem dX2_markImages_1 : decode cX2_markImages 1 = .ok (.getfield 21, 3) := e_180 (x := 0) (y := 21) drcX2_markImages_0 1 rfl rfl
theorem dX2_markImages_4 : decode cX2_markImages 4 = .ok (.arraylength, 1) := dec_190 (gB drcX2_markImages_0 4 rfl rfl)
theorem dX2_markImages_5 : decode cX2_markImages 5 = .ok (.iconst 1, 1) := dec_4 (gB drcX2_markImages_0 5 rfl rfl)
theorem dX2_markImages_6 : decode cX2_markImages 6 = .ok (.isub, 1) := dec_100 (gB drcX2_markImages_0 6 rfl rfl)
theorem dX2_markImages_7 : decode cX2_markImages 7 = .ok (.istore_n 2, 1) := dec_61 (gB drcX2_markImages_0 7 rfl rfl)
theorem dX2_markImages_8 : decode cX2_markImages 8 = .ok (.iload_n 2, 1) := dec_28 (gB drcX2_markImages_0 8 rfl rfl)
theorem dX2_markImages_9 : decode cX2_markImages 9 = .ok (.ifCond .lt 54, 3) := e_155 (x := 0) (y := 54) drcX2_markImages_0 9 rfl rfl
theorem dX2_markImages_12 : decode cX2_markImages 12 = .ok (.aload_n 0, 1) := dec_42 (gB drcX2_markImages_0 12 rfl rfl)
theorem dX2_markImages_13 : decode cX2_markImages 13 = .ok (.getfield 21, 3) := e_180 (x := 0) (y := 21) drcX2_markImages_0 13 rfl rfl
theorem dX2_markImages_16 : decode cX2_markImages 16 = .ok (.iload_n 2, 1) := dec_28 (gB drcX2_markImages_0 16 rfl rfl)
theorem dX2_markImages_17 : decode cX2_markImages 17 = .ok (.iload_n 2, 1) := dec_28 (gB drcX2_markImages_0 17 rfl rfl)
theorem dX2_markImages_18 : decode cX2_markImages 18 = .ok (.aload_n 1, 1) := dec_43 (gB drcX2_markImages_0 18 rfl rfl)
theorem dX2_markImages_19 : decode cX2_markImages 19 = .ok (.getfield 39, 3) := e_180 (x := 0) (y := 39) drcX2_markImages_0 19 rfl rfl
theorem dX2_markImages_22 : decode cX2_markImages 22 = .ok (.if_icmp .eq 29, 3) := e_159 (x := 0) (y := 29) drcX2_markImages_0 22 rfl rfl
theorem dX2_markImages_25 : decode cX2_markImages 25 = .ok (.aload_n 0, 1) := dec_42 (gB drcX2_markImages_0 25 rfl rfl)
theorem dX2_markImages_26 : decode cX2_markImages 26 = .ok (.aload_n 1, 1) := dec_43 (gB drcX2_markImages_0 26 rfl rfl)
theorem dX2_markImages_27 : decode cX2_markImages 27 = .ok (.iload_n 2, 1) := dec_28 (gB drcX2_markImages_0 27 rfl rfl)
theorem dX2_markImages_28 : decode cX2_markImages 28 = .ok (.aload_n 0, 1) := dec_42 (gB drcX2_markImages_0 28 rfl rfl)
theorem dX2_markImages_29 : decode cX2_markImages 29 = .ok (.getfield 12, 3) := e_180 (x := 0) (y := 12) drcX2_markImages_0 29 rfl rfl
theorem dX2_markImages_32 : decode cX2_markImages 32 = .ok (.invokevirtual 61, 3) := e_182 (x := 0) (y := 61) drcX2_markImages_0 32 rfl rfl
theorem dX2_markImages_35 : decode cX2_markImages 35 = .ok (.ifCond .ne 16, 3) := e_154 (x := 0) (y := 16) drcX2_markImages_0 35 rfl rfl
theorem dX2_markImages_38 : decode cX2_markImages 38 = .ok (.aload_n 0, 1) := dec_42 (gB drcX2_markImages_0 38 rfl rfl)
theorem dX2_markImages_39 : decode cX2_markImages 39 = .ok (.aload_n 1, 1) := dec_43 (gB drcX2_markImages_0 39 rfl rfl)
theorem dX2_markImages_40 : decode cX2_markImages 40 = .ok (.iload_n 2, 1) := dec_28 (gB drcX2_markImages_0 40 rfl rfl)
theorem dX2_markImages_41 : decode cX2_markImages 41 = .ok (.aload_n 0, 1) := dec_42 (gB drcX2_markImages_0 41 rfl rfl)
theorem dX2_markImages_42 : decode cX2_markImages 42 = .ok (.getfield 18, 3) := e_180 (x := 0) (y := 18) drcX2_markImages_0 42 rfl rfl
theorem dX2_markImages_45 : decode cX2_markImages 45 = .ok (.invokevirtual 61, 3) := e_182 (x := 0) (y := 61) drcX2_markImages_0 45 rfl rfl
theorem dX2_markImages_48 : decode cX2_markImages 48 = .ok (.ifCond .eq 7, 3) := e_153 (x := 0) (y := 7) drcX2_markImages_0 48 rfl rfl
theorem dX2_markImages_51 : decode cX2_markImages 51 = .ok (.iconst 1, 1) := dec_4 (gB drcX2_markImages_0 51 rfl rfl)
theorem dX2_markImages_52 : decode cX2_markImages 52 = .ok (.goto 4, 3) := e_167 (x := 0) (y := 4) drcX2_markImages_0 52 rfl rfl
theorem dX2_markImages_55 : decode cX2_markImages 55 = .ok (.iconst 0, 1) := dec_3 (gB drcX2_markImages_0 55 rfl rfl)
theorem dX2_markImages_56 : decode cX2_markImages 56 = .ok (.bastore, 1) := dec_84 (gB drcX2_markImages_0 56 rfl rfl)
theorem dX2_markImages_57 : decode cX2_markImages 57 = .ok (.iinc 2 (-1), 3) := e_132 (x := 2) (y := 255) drcX2_markImages_0 57 rfl rfl
theorem dX2_markImages_60 : decode cX2_markImages 60 = .ok (.goto (-52), 3) := e_167 (x := 255) (y := 204) drcX2_markImages_0 60 rfl rfl
theorem dX2_markImages_63 : decode cX2_markImages 63 = .ok (.return_, 1) := dec_177 (gB drcX2_markImages_0 63 rfl rfl)
def lkcX2_isMarked_0 : List UInt8 := [0x1b, 0x9b, 0x00, 0x19, 0x1b, 0x2a, 0xb4, 0x00, 0x15, 0xbe, 0xa2, 0x00, 0x10, 0x2a, 0xb4, 0x00, 0x15, 0x1b, 0x33, 0x99, 0x00, 0x07, 0x04, 0xa7, 0x00, 0x04, 0x03, 0xac]
def tkcX2_isMarked_0 : List UInt8 := lkcX2_isMarked_0 ++ []
theorem drcX2_isMarked_0 : (cX2_isMarked).data.toList.drop 0 = lkcX2_isMarked_0 ++ [] := by decide +kernel
theorem dX2_isMarked_0 : decode cX2_isMarked 0 = .ok (.iload_n 1, 1) := dec_27 (gB drcX2_isMarked_0 0 rfl rfl)
theorem dX2_isMarked_1 : decode cX2_isMarked 1 = .ok (.ifCond .lt 25, 3) := e_155 (x := 0) (y := 25) drcX2_isMarked_0 1 rfl rfl
theorem dX2_isMarked_4 : decode cX2_isMarked 4 = .ok (.iload_n 1, 1) := dec_27 (gB drcX2_isMarked_0 4 rfl rfl)
theorem dX2_isMarked_5 : decode cX2_isMarked 5 = .ok (.aload_n 0, 1) := dec_42 (gB drcX2_isMarked_0 5 rfl rfl)
theorem dX2_isMarked_6 : decode cX2_isMarked 6 = .ok (.getfield 21, 3) := e_180 (x := 0) (y := 21) drcX2_isMarked_0 6 rfl rfl
theorem dX2_isMarked_9 : decode cX2_isMarked 9 = .ok (.arraylength, 1) := dec_190 (gB drcX2_isMarked_0 9 rfl rfl)
theorem dX2_isMarked_10 : decode cX2_isMarked 10 = .ok (.if_icmp .ge 16, 3) := e_162 (x := 0) (y := 16) drcX2_isMarked_0 10 rfl rfl
theorem dX2_isMarked_13 : decode cX2_isMarked 13 = .ok (.aload_n 0, 1) := dec_42 (gB drcX2_isMarked_0 13 rfl rfl)
theorem dX2_isMarked_14 : decode cX2_isMarked 14 = .ok (.getfield 21, 3) := e_180 (x := 0) (y := 21) drcX2_isMarked_0 14 rfl rfl
theorem dX2_isMarked_17 : decode cX2_isMarked 17 = .ok (.iload_n 1, 1) := dec_27 (gB drcX2_isMarked_0 17 rfl rfl)
theorem dX2_isMarked_18 : decode cX2_isMarked 18 = .ok (.baload, 1) := dec_51 (gB drcX2_isMarked_0 18 rfl rfl)
theorem dX2_isMarked_19 : decode cX2_isMarked 19 = .ok (.ifCond .eq 7, 3) := e_153 (x := 0) (y := 7) drcX2_isMarked_0 19 rfl rfl
theorem dX2_isMarked_22 : decode cX2_isMarked 22 = .ok (.iconst 1, 1) := dec_4 (gB drcX2_isMarked_0 22 rfl rfl)
theorem dX2_isMarked_23 : decode cX2_isMarked 23 = .ok (.goto 4, 3) := e_167 (x := 0) (y := 4) drcX2_isMarked_0 23 rfl rfl
theorem dX2_isMarked_26 : decode cX2_isMarked 26 = .ok (.iconst 0, 1) := dec_3 (gB drcX2_isMarked_0 26 rfl rfl)
theorem dX2_isMarked_27 : decode cX2_isMarked 27 = .ok (.ireturn, 1) := dec_172 (gB drcX2_isMarked_0 27 rfl rfl)
def lkcX2_goesOn_0 : List UInt8 := [0x2b, 0x1c, 0x2d, 0xb8, 0x00, 0x45, 0x99, 0x00, 0x14, 0x2a, 0x1c, 0x2d, 0xb4, 0x00, 0x27, 0x60, 0xb6, 0x00, 0x3a, 0x99, 0x00, 0x07, 0x04, 0xa7, 0x00, 0x04, 0x03, 0xac]
def tkcX2_goesOn_0 : List UInt8 := lkcX2_goesOn_0 ++ []
theorem drcX2_goesOn_0 : (cX2_goesOn).data.toList.drop 0 = lkcX2_goesOn_0 ++ [] := by decide +kernel
theorem dX2_goesOn_0 : decode cX2_goesOn 0 = .ok (.aload_n 1, 1) := dec_43 (gB drcX2_goesOn_0 0 rfl rfl)
theorem dX2_goesOn_1 : decode cX2_goesOn 1 = .ok (.iload_n 2, 1) := dec_28 (gB drcX2_goesOn_0 1 rfl rfl)
theorem dX2_goesOn_2 : decode cX2_goesOn 2 = .ok (.aload_n 3, 1) := dec_45 (gB drcX2_goesOn_0 2 rfl rfl)
theorem dX2_goesOn_3 : decode cX2_goesOn 3 = .ok (.invokestatic 69, 3) := e_184 (x := 0) (y := 69) drcX2_goesOn_0 3 rfl rfl
theorem dX2_goesOn_6 : decode cX2_goesOn 6 = .ok (.ifCond .eq 20, 3) := e_153 (x := 0) (y := 20) drcX2_goesOn_0 6 rfl rfl
theorem dX2_goesOn_9 : decode cX2_goesOn 9 = .ok (.aload_n 0, 1) := dec_42 (gB drcX2_goesOn_0 9 rfl rfl)
theorem dX2_goesOn_10 : decode cX2_goesOn 10 = .ok (.iload_n 2, 1) := dec_28 (gB drcX2_goesOn_0 10 rfl rfl)
theorem dX2_goesOn_11 : decode cX2_goesOn 11 = .ok (.aload_n 3, 1) := dec_45 (gB drcX2_goesOn_0 11 rfl rfl)
theorem dX2_goesOn_12 : decode cX2_goesOn 12 = .ok (.getfield 39, 3) := e_180 (x := 0) (y := 39) drcX2_goesOn_0 12 rfl rfl
theorem dX2_goesOn_15 : decode cX2_goesOn 15 = .ok (.iadd, 1) := dec_96 (gB drcX2_goesOn_0 15 rfl rfl)
theorem dX2_goesOn_16 : decode cX2_goesOn 16 = .ok (.invokevirtual 58, 3) := e_182 (x := 0) (y := 58) drcX2_goesOn_0 16 rfl rfl
theorem dX2_goesOn_19 : decode cX2_goesOn 19 = .ok (.ifCond .eq 7, 3) := e_153 (x := 0) (y := 7) drcX2_goesOn_0 19 rfl rfl
theorem dX2_goesOn_22 : decode cX2_goesOn 22 = .ok (.iconst 1, 1) := dec_4 (gB drcX2_goesOn_0 22 rfl rfl)
theorem dX2_goesOn_23 : decode cX2_goesOn 23 = .ok (.goto 4, 3) := e_167 (x := 0) (y := 4) drcX2_goesOn_0 23 rfl rfl
theorem dX2_goesOn_26 : decode cX2_goesOn 26 = .ok (.iconst 0, 1) := dec_3 (gB drcX2_goesOn_0 26 rfl rfl)
theorem dX2_goesOn_27 : decode cX2_goesOn 27 = .ok (.ireturn, 1) := dec_172 (gB drcX2_goesOn_0 27 rfl rfl)
def lkcX3_layByRule_0 : List UInt8 := [0x2d, 0x08, 0x10, 0x06, 0xb6, 0x00, 0x09, 0x2b, 0xb6, 0x00, 0x0f, 0x2b, 0x03, 0xb6, 0x00, 0x14, 0x03, 0x36, 0x04, 0x15, 0x04, 0x1a, 0xa2, 0x00, 0x14, 0x2d, 0x2b, 0x2c, 0xb6, 0x00, 0x18, 0x2b, 0x2c, 0xb6, 0x00, 0x1c, 0x84, 0x04, 0x01, 0xa7, 0xff, 0xec, 0xb1]
def tkcX3_layByRule_0 : List UInt8 := lkcX3_layByRule_0 ++ []
theorem drcX3_layByRule_0 : (cX3_layByRule).data.toList.drop 0 = lkcX3_layByRule_0 ++ [] := by decide +kernel
theorem dX3_layByRule_0 : decode cX3_layByRule 0 = .ok (.aload_n 3, 1) := dec_45 (gB drcX3_layByRule_0 0 rfl rfl)
theorem dX3_layByRule_1 : decode cX3_layByRule 1 = .ok (.iconst 5, 1) := dec_8 (gB drcX3_layByRule_0 1 rfl rfl)
theorem dX3_layByRule_2 : decode cX3_layByRule 2 = .ok (.bipush 6, 2) := e_16 (x := 6) drcX3_layByRule_0 2 rfl rfl
theorem dX3_layByRule_4 : decode cX3_layByRule 4 = .ok (.invokevirtual 9, 3) := e_182 (x := 0) (y := 9) drcX3_layByRule_0 4 rfl rfl
theorem dX3_layByRule_7 : decode cX3_layByRule 7 = .ok (.aload_n 1, 1) := dec_43 (gB drcX3_layByRule_0 7 rfl rfl)
theorem dX3_layByRule_8 : decode cX3_layByRule 8 = .ok (.invokevirtual 15, 3) := e_182 (x := 0) (y := 15) drcX3_layByRule_0 8 rfl rfl
theorem dX3_layByRule_11 : decode cX3_layByRule 11 = .ok (.aload_n 1, 1) := dec_43 (gB drcX3_layByRule_0 11 rfl rfl)
theorem dX3_layByRule_12 : decode cX3_layByRule 12 = .ok (.iconst 0, 1) := dec_3 (gB drcX3_layByRule_0 12 rfl rfl)
theorem dX3_layByRule_13 : decode cX3_layByRule 13 = .ok (.invokevirtual 20, 3) := e_182 (x := 0) (y := 20) drcX3_layByRule_0 13 rfl rfl
theorem dX3_layByRule_16 : decode cX3_layByRule 16 = .ok (.iconst 0, 1) := dec_3 (gB drcX3_layByRule_0 16 rfl rfl)
theorem dX3_layByRule_17 : decode cX3_layByRule 17 = .ok (.istore 4, 2) := e_54 (x := 4) drcX3_layByRule_0 17 rfl rfl
theorem dX3_layByRule_19 : decode cX3_layByRule 19 = .ok (.iload 4, 2) := e_21 (x := 4) drcX3_layByRule_0 19 rfl rfl
theorem dX3_layByRule_21 : decode cX3_layByRule 21 = .ok (.iload_n 0, 1) := dec_26 (gB drcX3_layByRule_0 21 rfl rfl)
theorem dX3_layByRule_22 : decode cX3_layByRule 22 = .ok (.if_icmp .ge 20, 3) := e_162 (x := 0) (y := 20) drcX3_layByRule_0 22 rfl rfl
theorem dX3_layByRule_25 : decode cX3_layByRule 25 = .ok (.aload_n 3, 1) := dec_45 (gB drcX3_layByRule_0 25 rfl rfl)
theorem dX3_layByRule_26 : decode cX3_layByRule 26 = .ok (.aload_n 1, 1) := dec_43 (gB drcX3_layByRule_0 26 rfl rfl)
theorem dX3_layByRule_27 : decode cX3_layByRule 27 = .ok (.aload_n 2, 1) := dec_44 (gB drcX3_layByRule_0 27 rfl rfl)
theorem dX3_layByRule_28 : decode cX3_layByRule 28 = .ok (.invokevirtual 24, 3) := e_182 (x := 0) (y := 24) drcX3_layByRule_0 28 rfl rfl
theorem dX3_layByRule_31 : decode cX3_layByRule 31 = .ok (.aload_n 1, 1) := dec_43 (gB drcX3_layByRule_0 31 rfl rfl)
theorem dX3_layByRule_32 : decode cX3_layByRule 32 = .ok (.aload_n 2, 1) := dec_44 (gB drcX3_layByRule_0 32 rfl rfl)
theorem dX3_layByRule_33 : decode cX3_layByRule 33 = .ok (.invokevirtual 28, 3) := e_182 (x := 0) (y := 28) drcX3_layByRule_0 33 rfl rfl
theorem dX3_layByRule_36 : decode cX3_layByRule 36 = .ok (.iinc 4 1, 3) := e_132 (x := 4) (y := 1) drcX3_layByRule_0 36 rfl rfl
theorem dX3_layByRule_39 : decode cX3_layByRule 39 = .ok (.goto (-20), 3) := e_167 (x := 255) (y := 236) drcX3_layByRule_0 39 rfl rfl
theorem dX3_layByRule_42 : decode cX3_layByRule 42 = .ok (.return_, 1) := dec_177 (gB drcX3_layByRule_0 42 rfl rfl)
def lkcX3_layByCopies_0 : List UInt8 := [0x2b, 0xb6, 0x00, 0x0f, 0x2b, 0x03, 0xb6, 0x00, 0x14, 0x03, 0x3d, 0x1c, 0x1a, 0xa2, 0x00, 0x2f, 0x2b, 0xb4, 0x00, 0x1f, 0x3e, 0x03, 0x36, 0x04, 0x15, 0x04, 0x1d, 0xa2, 0x00, 0x1b, 0x2b, 0x2b, 0x15, 0x04, 0xb6, 0x00, 0x23, 0x9a, 0x00, 0x07, 0x04, 0xa7, 0x00, 0x04, 0x03, 0xb6, 0x00, 0x14, 0x84, 0x04, 0x01, 0xa7, 0xff, 0xe5, 0x84, 0x02, 0x01, 0xa7, 0xff, 0xd2, 0xb1]
def tkcX3_layByCopies_0 : List UInt8 := lkcX3_layByCopies_0 ++ []
theorem drcX3_layByCopies_0 : (cX3_layByCopies).data.toList.drop 0 = lkcX3_layByCopies_0 ++ [] := by decide +kernel
theorem dX3_layByCopies_0 : decode cX3_layByCopies 0 = .ok (.aload_n 1, 1) := dec_43 (gB drcX3_layByCopies_0 0 rfl rfl)
theorem dX3_layByCopies_1 : decode cX3_layByCopies 1 = .ok (.invokevirtual 15, 3) := e_182 (x := 0) (y := 15) drcX3_layByCopies_0 1 rfl rfl
theorem dX3_layByCopies_4 : decode cX3_layByCopies 4 = .ok (.aload_n 1, 1) := dec_43 (gB drcX3_layByCopies_0 4 rfl rfl)
theorem dX3_layByCopies_5 : decode cX3_layByCopies 5 = .ok (.iconst 0, 1) := dec_3 (gB drcX3_layByCopies_0 5 rfl rfl)
theorem dX3_layByCopies_6 : decode cX3_layByCopies 6 = .ok (.invokevirtual 20, 3) := e_182 (x := 0) (y := 20) drcX3_layByCopies_0 6 rfl rfl
theorem dX3_layByCopies_9 : decode cX3_layByCopies 9 = .ok (.iconst 0, 1) := dec_3 (gB drcX3_layByCopies_0 9 rfl rfl)
theorem dX3_layByCopies_10 : decode cX3_layByCopies 10 = .ok (.istore_n 2, 1) := dec_61 (gB drcX3_layByCopies_0 10 rfl rfl)
theorem dX3_layByCopies_11 : decode cX3_layByCopies 11 = .ok (.iload_n 2, 1) := dec_28 (gB drcX3_layByCopies_0 11 rfl rfl)
theorem dX3_layByCopies_12 : decode cX3_layByCopies 12 = .ok (.iload_n 0, 1) := dec_26 (gB drcX3_layByCopies_0 12 rfl rfl)
theorem dX3_layByCopies_13 : decode cX3_layByCopies 13 = .ok (.if_icmp .ge 47, 3) := e_162 (x := 0) (y := 47) drcX3_layByCopies_0 13 rfl rfl
theorem dX3_layByCopies_16 : decode cX3_layByCopies 16 = .ok (.aload_n 1, 1) := dec_43 (gB drcX3_layByCopies_0 16 rfl rfl)
theorem dX3_layByCopies_17 : decode cX3_layByCopies 17 = .ok (.getfield 31, 3) := e_180 (x := 0) (y := 31) drcX3_layByCopies_0 17 rfl rfl
theorem dX3_layByCopies_20 : decode cX3_layByCopies 20 = .ok (.istore_n 3, 1) := dec_62 (gB drcX3_layByCopies_0 20 rfl rfl)
theorem dX3_layByCopies_21 : decode cX3_layByCopies 21 = .ok (.iconst 0, 1) := dec_3 (gB drcX3_layByCopies_0 21 rfl rfl)
theorem dX3_layByCopies_22 : decode cX3_layByCopies 22 = .ok (.istore 4, 2) := e_54 (x := 4) drcX3_layByCopies_0 22 rfl rfl
theorem dX3_layByCopies_24 : decode cX3_layByCopies 24 = .ok (.iload 4, 2) := e_21 (x := 4) drcX3_layByCopies_0 24 rfl rfl
theorem dX3_layByCopies_26 : decode cX3_layByCopies 26 = .ok (.iload_n 3, 1) := dec_29 (gB drcX3_layByCopies_0 26 rfl rfl)
theorem dX3_layByCopies_27 : decode cX3_layByCopies 27 = .ok (.if_icmp .ge 27, 3) := e_162 (x := 0) (y := 27) drcX3_layByCopies_0 27 rfl rfl
theorem dX3_layByCopies_30 : decode cX3_layByCopies 30 = .ok (.aload_n 1, 1) := dec_43 (gB drcX3_layByCopies_0 30 rfl rfl)
theorem dX3_layByCopies_31 : decode cX3_layByCopies 31 = .ok (.aload_n 1, 1) := dec_43 (gB drcX3_layByCopies_0 31 rfl rfl)
theorem dX3_layByCopies_32 : decode cX3_layByCopies 32 = .ok (.iload 4, 2) := e_21 (x := 4) drcX3_layByCopies_0 32 rfl rfl
theorem dX3_layByCopies_34 : decode cX3_layByCopies 34 = .ok (.invokevirtual 35, 3) := e_182 (x := 0) (y := 35) drcX3_layByCopies_0 34 rfl rfl
theorem dX3_layByCopies_37 : decode cX3_layByCopies 37 = .ok (.ifCond .ne 7, 3) := e_154 (x := 0) (y := 7) drcX3_layByCopies_0 37 rfl rfl
theorem dX3_layByCopies_40 : decode cX3_layByCopies 40 = .ok (.iconst 1, 1) := dec_4 (gB drcX3_layByCopies_0 40 rfl rfl)
theorem dX3_layByCopies_41 : decode cX3_layByCopies 41 = .ok (.goto 4, 3) := e_167 (x := 0) (y := 4) drcX3_layByCopies_0 41 rfl rfl
theorem dX3_layByCopies_44 : decode cX3_layByCopies 44 = .ok (.iconst 0, 1) := dec_3 (gB drcX3_layByCopies_0 44 rfl rfl)
theorem dX3_layByCopies_45 : decode cX3_layByCopies 45 = .ok (.invokevirtual 20, 3) := e_182 (x := 0) (y := 20) drcX3_layByCopies_0 45 rfl rfl
theorem dX3_layByCopies_48 : decode cX3_layByCopies 48 = .ok (.iinc 4 1, 3) := e_132 (x := 4) (y := 1) drcX3_layByCopies_0 48 rfl rfl
theorem dX3_layByCopies_51 : decode cX3_layByCopies 51 = .ok (.goto (-27), 3) := e_167 (x := 255) (y := 229) drcX3_layByCopies_0 51 rfl rfl
theorem dX3_layByCopies_54 : decode cX3_layByCopies 54 = .ok (.iinc 2 1, 3) := e_132 (x := 2) (y := 1) drcX3_layByCopies_0 54 rfl rfl
theorem dX3_layByCopies_57 : decode cX3_layByCopies 57 = .ok (.goto (-46), 3) := e_167 (x := 255) (y := 210) drcX3_layByCopies_0 57 rfl rfl
theorem dX3_layByCopies_60 : decode cX3_layByCopies 60 = .ok (.return_, 1) := dec_177 (gB drcX3_layByCopies_0 60 rfl rfl)
def lkcX3_laySignBySign_0 : List UInt8 := [0x2b, 0xb6, 0x00, 0x0f, 0x03, 0x3d, 0x1c, 0x04, 0x1a, 0x78, 0xa2, 0x00, 0x1c, 0x2b, 0x1c, 0xb8, 0x00, 0x27, 0x04, 0x7e, 0x04, 0xa0, 0x00, 0x07, 0x04, 0xa7, 0x00, 0x04, 0x03, 0xb6, 0x00, 0x14, 0x84, 0x02, 0x01, 0xa7, 0xff, 0xe3, 0xb1]
def tkcX3_laySignBySign_0 : List UInt8 := lkcX3_laySignBySign_0 ++ []
theorem drcX3_laySignBySign_0 : (cX3_laySignBySign).data.toList.drop 0 = lkcX3_laySignBySign_0 ++ [] := by decide +kernel
theorem dX3_laySignBySign_0 : decode cX3_laySignBySign 0 = .ok (.aload_n 1, 1) := dec_43 (gB drcX3_laySignBySign_0 0 rfl rfl)
theorem dX3_laySignBySign_1 : decode cX3_laySignBySign 1 = .ok (.invokevirtual 15, 3) := e_182 (x := 0) (y := 15) drcX3_laySignBySign_0 1 rfl rfl
theorem dX3_laySignBySign_4 : decode cX3_laySignBySign 4 = .ok (.iconst 0, 1) := dec_3 (gB drcX3_laySignBySign_0 4 rfl rfl)
theorem dX3_laySignBySign_5 : decode cX3_laySignBySign 5 = .ok (.istore_n 2, 1) := dec_61 (gB drcX3_laySignBySign_0 5 rfl rfl)
theorem dX3_laySignBySign_6 : decode cX3_laySignBySign 6 = .ok (.iload_n 2, 1) := dec_28 (gB drcX3_laySignBySign_0 6 rfl rfl)
theorem dX3_laySignBySign_7 : decode cX3_laySignBySign 7 = .ok (.iconst 1, 1) := dec_4 (gB drcX3_laySignBySign_0 7 rfl rfl)
theorem dX3_laySignBySign_8 : decode cX3_laySignBySign 8 = .ok (.iload_n 0, 1) := dec_26 (gB drcX3_laySignBySign_0 8 rfl rfl)
theorem dX3_laySignBySign_9 : decode cX3_laySignBySign 9 = .ok (.ishl, 1) := dec_120 (gB drcX3_laySignBySign_0 9 rfl rfl)
theorem dX3_laySignBySign_10 : decode cX3_laySignBySign 10 = .ok (.if_icmp .ge 28, 3) := e_162 (x := 0) (y := 28) drcX3_laySignBySign_0 10 rfl rfl
theorem dX3_laySignBySign_13 : decode cX3_laySignBySign 13 = .ok (.aload_n 1, 1) := dec_43 (gB drcX3_laySignBySign_0 13 rfl rfl)
theorem dX3_laySignBySign_14 : decode cX3_laySignBySign 14 = .ok (.iload_n 2, 1) := dec_28 (gB drcX3_laySignBySign_0 14 rfl rfl)
theorem dX3_laySignBySign_15 : decode cX3_laySignBySign 15 = .ok (.invokestatic 39, 3) := e_184 (x := 0) (y := 39) drcX3_laySignBySign_0 15 rfl rfl
theorem dX3_laySignBySign_18 : decode cX3_laySignBySign 18 = .ok (.iconst 1, 1) := dec_4 (gB drcX3_laySignBySign_0 18 rfl rfl)
theorem dX3_laySignBySign_19 : decode cX3_laySignBySign 19 = .ok (.iand, 1) := dec_126 (gB drcX3_laySignBySign_0 19 rfl rfl)
theorem dX3_laySignBySign_20 : decode cX3_laySignBySign 20 = .ok (.iconst 1, 1) := dec_4 (gB drcX3_laySignBySign_0 20 rfl rfl)
theorem dX3_laySignBySign_21 : decode cX3_laySignBySign 21 = .ok (.if_icmp .ne 7, 3) := e_160 (x := 0) (y := 7) drcX3_laySignBySign_0 21 rfl rfl
theorem dX3_laySignBySign_24 : decode cX3_laySignBySign 24 = .ok (.iconst 1, 1) := dec_4 (gB drcX3_laySignBySign_0 24 rfl rfl)
theorem dX3_laySignBySign_25 : decode cX3_laySignBySign 25 = .ok (.goto 4, 3) := e_167 (x := 0) (y := 4) drcX3_laySignBySign_0 25 rfl rfl
theorem dX3_laySignBySign_28 : decode cX3_laySignBySign 28 = .ok (.iconst 0, 1) := dec_3 (gB drcX3_laySignBySign_0 28 rfl rfl)
theorem dX3_laySignBySign_29 : decode cX3_laySignBySign 29 = .ok (.invokevirtual 20, 3) := e_182 (x := 0) (y := 20) drcX3_laySignBySign_0 29 rfl rfl
theorem dX3_laySignBySign_32 : decode cX3_laySignBySign 32 = .ok (.iinc 2 1, 3) := e_132 (x := 2) (y := 1) drcX3_laySignBySign_0 32 rfl rfl
theorem dX3_laySignBySign_35 : decode cX3_laySignBySign 35 = .ok (.goto (-29), 3) := e_167 (x := 255) (y := 227) drcX3_laySignBySign_0 35 rfl rfl
theorem dX3_laySignBySign_38 : decode cX3_laySignBySign 38 = .ok (.return_, 1) := dec_177 (gB drcX3_laySignBySign_0 38 rfl rfl)
def lkcX4_init_0 : List UInt8 := [0x2a, 0xb7, 0x00, 0x03, 0x2a, 0x10, 0x40, 0xbc, 0x04, 0xb5, 0x00, 0x09, 0xb1]
def tkcX4_init_0 : List UInt8 := lkcX4_init_0 ++ []
theorem drcX4_init_0 : (cX4_init).data.toList.drop 0 = lkcX4_init_0 ++ [] := by decide +kernel
theorem dX4_init_0 : decode cX4_init 0 = .ok (.aload_n 0, 1) := dec_42 (gB drcX4_init_0 0 rfl rfl)
theorem dX4_init_1 : decode cX4_init 1 = .ok (.invokespecial 3, 3) := e_183 (x := 0) (y := 3) drcX4_init_0 1 rfl rfl
theorem dX4_init_4 : decode cX4_init 4 = .ok (.aload_n 0, 1) := dec_42 (gB drcX4_init_0 4 rfl rfl)
theorem dX4_init_5 : decode cX4_init 5 = .ok (.bipush 64, 2) := e_16 (x := 64) drcX4_init_0 5 rfl rfl
theorem dX4_init_7 : decode cX4_init 7 = .ok (.newarray .boolean, 2) := by decide +kernel
theorem dX4_init_9 : decode cX4_init 9 = .ok (.putfield 9, 3) := e_181 (x := 0) (y := 9) drcX4_init_0 9 rfl rfl
theorem dX4_init_12 : decode cX4_init 12 = .ok (.return_, 1) := dec_177 (gB drcX4_init_0 12 rfl rfl)
def lkcX4_isUp_0 : List UInt8 := [0x1b, 0x9b, 0x00, 0x19, 0x1b, 0x2a, 0xb4, 0x00, 0x09, 0xbe, 0xa2, 0x00, 0x10, 0x2a, 0xb4, 0x00, 0x09, 0x1b, 0x33, 0x99, 0x00, 0x07, 0x04, 0xa7, 0x00, 0x04, 0x03, 0xac]
def tkcX4_isUp_0 : List UInt8 := lkcX4_isUp_0 ++ []
theorem drcX4_isUp_0 : (cX4_isUp).data.toList.drop 0 = lkcX4_isUp_0 ++ [] := by decide +kernel
theorem dX4_isUp_0 : decode cX4_isUp 0 = .ok (.iload_n 1, 1) := dec_27 (gB drcX4_isUp_0 0 rfl rfl)
theorem dX4_isUp_1 : decode cX4_isUp 1 = .ok (.ifCond .lt 25, 3) := e_155 (x := 0) (y := 25) drcX4_isUp_0 1 rfl rfl
theorem dX4_isUp_4 : decode cX4_isUp 4 = .ok (.iload_n 1, 1) := dec_27 (gB drcX4_isUp_0 4 rfl rfl)
theorem dX4_isUp_5 : decode cX4_isUp 5 = .ok (.aload_n 0, 1) := dec_42 (gB drcX4_isUp_0 5 rfl rfl)
theorem dX4_isUp_6 : decode cX4_isUp 6 = .ok (.getfield 9, 3) := e_180 (x := 0) (y := 9) drcX4_isUp_0 6 rfl rfl
theorem dX4_isUp_9 : decode cX4_isUp 9 = .ok (.arraylength, 1) := dec_190 (gB drcX4_isUp_0 9 rfl rfl)
theorem dX4_isUp_10 : decode cX4_isUp 10 = .ok (.if_icmp .ge 16, 3) := e_162 (x := 0) (y := 16) drcX4_isUp_0 10 rfl rfl
theorem dX4_isUp_13 : decode cX4_isUp 13 = .ok (.aload_n 0, 1) := dec_42 (gB drcX4_isUp_0 13 rfl rfl)
theorem dX4_isUp_14 : decode cX4_isUp 14 = .ok (.getfield 9, 3) := e_180 (x := 0) (y := 9) drcX4_isUp_0 14 rfl rfl
theorem dX4_isUp_17 : decode cX4_isUp 17 = .ok (.iload_n 1, 1) := dec_27 (gB drcX4_isUp_0 17 rfl rfl)
theorem dX4_isUp_18 : decode cX4_isUp 18 = .ok (.baload, 1) := dec_51 (gB drcX4_isUp_0 18 rfl rfl)
theorem dX4_isUp_19 : decode cX4_isUp 19 = .ok (.ifCond .eq 7, 3) := e_153 (x := 0) (y := 7) drcX4_isUp_0 19 rfl rfl
theorem dX4_isUp_22 : decode cX4_isUp 22 = .ok (.iconst 1, 1) := dec_4 (gB drcX4_isUp_0 22 rfl rfl)
theorem dX4_isUp_23 : decode cX4_isUp 23 = .ok (.goto 4, 3) := e_167 (x := 0) (y := 4) drcX4_isUp_0 23 rfl rfl
theorem dX4_isUp_26 : decode cX4_isUp 26 = .ok (.iconst 0, 1) := dec_3 (gB drcX4_isUp_0 26 rfl rfl)
theorem dX4_isUp_27 : decode cX4_isUp 27 = .ok (.ireturn, 1) := dec_172 (gB drcX4_isUp_0 27 rfl rfl)
def lkcX4_put_0 : List UInt8 := [0x1b, 0x9b, 0x00, 0x13, 0x1b, 0x2a, 0xb4, 0x00, 0x09, 0xbe, 0xa2, 0x00, 0x0a, 0x2a, 0xb4, 0x00, 0x09, 0x1b, 0x1c, 0x54, 0xb1]
def tkcX4_put_0 : List UInt8 := lkcX4_put_0 ++ []
theorem drcX4_put_0 : (cX4_put).data.toList.drop 0 = lkcX4_put_0 ++ [] := by decide +kernel
theorem dX4_put_0 : decode cX4_put 0 = .ok (.iload_n 1, 1) := dec_27 (gB drcX4_put_0 0 rfl rfl)
theorem dX4_put_1 : decode cX4_put 1 = .ok (.ifCond .lt 19, 3) := e_155 (x := 0) (y := 19) drcX4_put_0 1 rfl rfl
theorem dX4_put_4 : decode cX4_put 4 = .ok (.iload_n 1, 1) := dec_27 (gB drcX4_put_0 4 rfl rfl)
theorem dX4_put_5 : decode cX4_put 5 = .ok (.aload_n 0, 1) := dec_42 (gB drcX4_put_0 5 rfl rfl)
theorem dX4_put_6 : decode cX4_put 6 = .ok (.getfield 9, 3) := e_180 (x := 0) (y := 9) drcX4_put_0 6 rfl rfl
theorem dX4_put_9 : decode cX4_put 9 = .ok (.arraylength, 1) := dec_190 (gB drcX4_put_0 9 rfl rfl)
theorem dX4_put_10 : decode cX4_put 10 = .ok (.if_icmp .ge 10, 3) := e_162 (x := 0) (y := 10) drcX4_put_0 10 rfl rfl
theorem dX4_put_13 : decode cX4_put 13 = .ok (.aload_n 0, 1) := dec_42 (gB drcX4_put_0 13 rfl rfl)
theorem dX4_put_14 : decode cX4_put 14 = .ok (.getfield 9, 3) := e_180 (x := 0) (y := 9) drcX4_put_0 14 rfl rfl
theorem dX4_put_17 : decode cX4_put 17 = .ok (.iload_n 1, 1) := dec_27 (gB drcX4_put_0 17 rfl rfl)
theorem dX4_put_18 : decode cX4_put 18 = .ok (.iload_n 2, 1) := dec_28 (gB drcX4_put_0 18 rfl rfl)
theorem dX4_put_19 : decode cX4_put 19 = .ok (.bastore, 1) := dec_84 (gB drcX4_put_0 19 rfl rfl)
theorem dX4_put_20 : decode cX4_put 20 = .ok (.return_, 1) := dec_177 (gB drcX4_put_0 20 rfl rfl)
def lkcX4_clear_0 : List UInt8 := [0x2a, 0x03, 0xb5, 0x00, 0x0f, 0xb1]
def tkcX4_clear_0 : List UInt8 := lkcX4_clear_0 ++ []
theorem drcX4_clear_0 : (cX4_clear).data.toList.drop 0 = lkcX4_clear_0 ++ [] := by decide +kernel
theorem dX4_clear_0 : decode cX4_clear 0 = .ok (.aload_n 0, 1) := dec_42 (gB drcX4_clear_0 0 rfl rfl)
theorem dX4_clear_1 : decode cX4_clear 1 = .ok (.iconst 0, 1) := dec_3 (gB drcX4_clear_0 1 rfl rfl)
theorem dX4_clear_2 : decode cX4_clear 2 = .ok (.putfield 15, 3) := e_181 (x := 0) (y := 15) drcX4_clear_0 2 rfl rfl
theorem dX4_clear_5 : decode cX4_clear 5 = .ok (.return_, 1) := dec_177 (gB drcX4_clear_0 5 rfl rfl)
def lkcX4_add_0 : List UInt8 := [0x2a, 0xb4, 0x00, 0x0f, 0x9b, 0x00, 0x23, 0x2a, 0xb4, 0x00, 0x0f, 0x2a, 0xb4, 0x00, 0x09, 0xbe, 0xa2, 0x00, 0x17, 0x2a, 0xb4, 0x00, 0x09, 0x2a, 0xb4, 0x00, 0x0f, 0x1b, 0x54, 0x2a, 0x59, 0xb4, 0x00, 0x0f, 0x04, 0x60, 0xb5, 0x00, 0x0f, 0xb1]
def tkcX4_add_0 : List UInt8 := lkcX4_add_0 ++ []
theorem drcX4_add_0 : (cX4_add).data.toList.drop 0 = lkcX4_add_0 ++ [] := by decide +kernel
theorem dX4_add_0 : decode cX4_add 0 = .ok (.aload_n 0, 1) := dec_42 (gB drcX4_add_0 0 rfl rfl)
theorem dX4_add_1 : decode cX4_add 1 = .ok (.getfield 15, 3) := e_180 (x := 0) (y := 15) drcX4_add_0 1 rfl rfl
theorem dX4_add_4 : decode cX4_add 4 = .ok (.ifCond .lt 35, 3) := e_155 (x := 0) (y := 35) drcX4_add_0 4 rfl rfl
theorem dX4_add_7 : decode cX4_add 7 = .ok (.aload_n 0, 1) := dec_42 (gB drcX4_add_0 7 rfl rfl)
theorem dX4_add_8 : decode cX4_add 8 = .ok (.getfield 15, 3) := e_180 (x := 0) (y := 15) drcX4_add_0 8 rfl rfl
theorem dX4_add_11 : decode cX4_add 11 = .ok (.aload_n 0, 1) := dec_42 (gB drcX4_add_0 11 rfl rfl)
theorem dX4_add_12 : decode cX4_add 12 = .ok (.getfield 9, 3) := e_180 (x := 0) (y := 9) drcX4_add_0 12 rfl rfl
theorem dX4_add_15 : decode cX4_add 15 = .ok (.arraylength, 1) := dec_190 (gB drcX4_add_0 15 rfl rfl)
theorem dX4_add_16 : decode cX4_add 16 = .ok (.if_icmp .ge 23, 3) := e_162 (x := 0) (y := 23) drcX4_add_0 16 rfl rfl
theorem dX4_add_19 : decode cX4_add 19 = .ok (.aload_n 0, 1) := dec_42 (gB drcX4_add_0 19 rfl rfl)
theorem dX4_add_20 : decode cX4_add 20 = .ok (.getfield 9, 3) := e_180 (x := 0) (y := 9) drcX4_add_0 20 rfl rfl
theorem dX4_add_23 : decode cX4_add 23 = .ok (.aload_n 0, 1) := dec_42 (gB drcX4_add_0 23 rfl rfl)
theorem dX4_add_24 : decode cX4_add 24 = .ok (.getfield 15, 3) := e_180 (x := 0) (y := 15) drcX4_add_0 24 rfl rfl
theorem dX4_add_27 : decode cX4_add 27 = .ok (.iload_n 1, 1) := dec_27 (gB drcX4_add_0 27 rfl rfl)
theorem dX4_add_28 : decode cX4_add 28 = .ok (.bastore, 1) := dec_84 (gB drcX4_add_0 28 rfl rfl)
theorem dX4_add_29 : decode cX4_add 29 = .ok (.aload_n 0, 1) := dec_42 (gB drcX4_add_0 29 rfl rfl)
theorem dX4_add_30 : decode cX4_add 30 = .ok (.dup, 1) := dec_89 (gB drcX4_add_0 30 rfl rfl)
theorem dX4_add_31 : decode cX4_add 31 = .ok (.getfield 15, 3) := e_180 (x := 0) (y := 15) drcX4_add_0 31 rfl rfl
theorem dX4_add_34 : decode cX4_add 34 = .ok (.iconst 1, 1) := dec_4 (gB drcX4_add_0 34 rfl rfl)
theorem dX4_add_35 : decode cX4_add 35 = .ok (.iadd, 1) := dec_96 (gB drcX4_add_0 35 rfl rfl)
theorem dX4_add_36 : decode cX4_add 36 = .ok (.putfield 15, 3) := e_181 (x := 0) (y := 15) drcX4_add_0 36 rfl rfl
theorem dX4_add_39 : decode cX4_add 39 = .ok (.return_, 1) := dec_177 (gB drcX4_add_0 39 rfl rfl)
def lkcX4_addPart_0 : List UInt8 := [0x1c, 0x36, 0x04, 0x15, 0x04, 0x1d, 0xa2, 0x00, 0x13, 0x2a, 0x2b, 0x15, 0x04, 0xb6, 0x00, 0x13, 0xb6, 0x00, 0x17, 0x84, 0x04, 0x01, 0xa7, 0xff, 0xed, 0xb1]
def tkcX4_addPart_0 : List UInt8 := lkcX4_addPart_0 ++ []
theorem drcX4_addPart_0 : (cX4_addPart).data.toList.drop 0 = lkcX4_addPart_0 ++ [] := by decide +kernel
theorem dX4_addPart_0 : decode cX4_addPart 0 = .ok (.iload_n 2, 1) := dec_28 (gB drcX4_addPart_0 0 rfl rfl)
theorem dX4_addPart_1 : decode cX4_addPart 1 = .ok (.istore 4, 2) := e_54 (x := 4) drcX4_addPart_0 1 rfl rfl
theorem dX4_addPart_3 : decode cX4_addPart 3 = .ok (.iload 4, 2) := e_21 (x := 4) drcX4_addPart_0 3 rfl rfl
theorem dX4_addPart_5 : decode cX4_addPart 5 = .ok (.iload_n 3, 1) := dec_29 (gB drcX4_addPart_0 5 rfl rfl)
theorem dX4_addPart_6 : decode cX4_addPart 6 = .ok (.if_icmp .ge 19, 3) := e_162 (x := 0) (y := 19) drcX4_addPart_0 6 rfl rfl
theorem dX4_addPart_9 : decode cX4_addPart 9 = .ok (.aload_n 0, 1) := dec_42 (gB drcX4_addPart_0 9 rfl rfl)
theorem dX4_addPart_10 : decode cX4_addPart 10 = .ok (.aload_n 1, 1) := dec_43 (gB drcX4_addPart_0 10 rfl rfl)
theorem dX4_addPart_11 : decode cX4_addPart 11 = .ok (.iload 4, 2) := e_21 (x := 4) drcX4_addPart_0 11 rfl rfl
theorem dX4_addPart_13 : decode cX4_addPart 13 = .ok (.invokevirtual 19, 3) := e_182 (x := 0) (y := 19) drcX4_addPart_0 13 rfl rfl
theorem dX4_addPart_16 : decode cX4_addPart 16 = .ok (.invokevirtual 23, 3) := e_182 (x := 0) (y := 23) drcX4_addPart_0 16 rfl rfl
theorem dX4_addPart_19 : decode cX4_addPart 19 = .ok (.iinc 4 1, 3) := e_132 (x := 4) (y := 1) drcX4_addPart_0 19 rfl rfl
theorem dX4_addPart_22 : decode cX4_addPart 22 = .ok (.goto (-19), 3) := e_167 (x := 255) (y := 237) drcX4_addPart_0 22 rfl rfl
theorem dX4_addPart_25 : decode cX4_addPart 25 = .ok (.return_, 1) := dec_177 (gB drcX4_addPart_0 25 rfl rfl)
def lkcX4_take_0 : List UInt8 := [0x03, 0x3d, 0x1c, 0x2b, 0xb4, 0x00, 0x0f, 0xa2, 0x00, 0x13, 0x2a, 0x1c, 0x2b, 0x1c, 0xb6, 0x00, 0x13, 0xb6, 0x00, 0x1b, 0x84, 0x02, 0x01, 0xa7, 0xff, 0xeb, 0x2a, 0x2b, 0xb4, 0x00, 0x0f, 0xb5, 0x00, 0x0f, 0xb1]
def tkcX4_take_0 : List UInt8 := lkcX4_take_0 ++ []
theorem drcX4_take_0 : (cX4_take).data.toList.drop 0 = lkcX4_take_0 ++ [] := by decide +kernel
theorem dX4_take_0 : decode cX4_take 0 = .ok (.iconst 0, 1) := dec_3 (gB drcX4_take_0 0 rfl rfl)
theorem dX4_take_1 : decode cX4_take 1 = .ok (.istore_n 2, 1) := dec_61 (gB drcX4_take_0 1 rfl rfl)
theorem dX4_take_2 : decode cX4_take 2 = .ok (.iload_n 2, 1) := dec_28 (gB drcX4_take_0 2 rfl rfl)
theorem dX4_take_3 : decode cX4_take 3 = .ok (.aload_n 1, 1) := dec_43 (gB drcX4_take_0 3 rfl rfl)
theorem dX4_take_4 : decode cX4_take 4 = .ok (.getfield 15, 3) := e_180 (x := 0) (y := 15) drcX4_take_0 4 rfl rfl
theorem dX4_take_7 : decode cX4_take 7 = .ok (.if_icmp .ge 19, 3) := e_162 (x := 0) (y := 19) drcX4_take_0 7 rfl rfl
theorem dX4_take_10 : decode cX4_take 10 = .ok (.aload_n 0, 1) := dec_42 (gB drcX4_take_0 10 rfl rfl)
theorem dX4_take_11 : decode cX4_take 11 = .ok (.iload_n 2, 1) := dec_28 (gB drcX4_take_0 11 rfl rfl)
theorem dX4_take_12 : decode cX4_take 12 = .ok (.aload_n 1, 1) := dec_43 (gB drcX4_take_0 12 rfl rfl)
theorem dX4_take_13 : decode cX4_take 13 = .ok (.iload_n 2, 1) := dec_28 (gB drcX4_take_0 13 rfl rfl)
theorem dX4_take_14 : decode cX4_take 14 = .ok (.invokevirtual 19, 3) := e_182 (x := 0) (y := 19) drcX4_take_0 14 rfl rfl
theorem dX4_take_17 : decode cX4_take 17 = .ok (.invokevirtual 27, 3) := e_182 (x := 0) (y := 27) drcX4_take_0 17 rfl rfl
theorem dX4_take_20 : decode cX4_take 20 = .ok (.iinc 2 1, 3) := e_132 (x := 2) (y := 1) drcX4_take_0 20 rfl rfl
theorem dX4_take_23 : decode cX4_take 23 = .ok (.goto (-21), 3) := e_167 (x := 255) (y := 235) drcX4_take_0 23 rfl rfl
theorem dX4_take_26 : decode cX4_take 26 = .ok (.aload_n 0, 1) := dec_42 (gB drcX4_take_0 26 rfl rfl)
theorem dX4_take_27 : decode cX4_take 27 = .ok (.aload_n 1, 1) := dec_43 (gB drcX4_take_0 27 rfl rfl)
theorem dX4_take_28 : decode cX4_take 28 = .ok (.getfield 15, 3) := e_180 (x := 0) (y := 15) drcX4_take_0 28 rfl rfl
theorem dX4_take_31 : decode cX4_take 31 = .ok (.putfield 15, 3) := e_181 (x := 0) (y := 15) drcX4_take_0 31 rfl rfl
theorem dX4_take_34 : decode cX4_take 34 = .ok (.return_, 1) := dec_177 (gB drcX4_take_0 34 rfl rfl)
def lkcX4_takeTurned_0 : List UInt8 := [0x2a, 0xb6, 0x00, 0x1f, 0x2b, 0xb4, 0x00, 0x0f, 0x04, 0x64, 0x3d, 0x1c, 0x9b, 0x00, 0x12, 0x2a, 0x2b, 0x1c, 0xb6, 0x00, 0x13, 0xb6, 0x00, 0x17, 0x84, 0x02, 0xff, 0xa7, 0xff, 0xf0, 0xb1]
def tkcX4_takeTurned_0 : List UInt8 := lkcX4_takeTurned_0 ++ []
theorem drcX4_takeTurned_0 : (cX4_takeTurned).data.toList.drop 0 = lkcX4_takeTurned_0 ++ [] := by decide +kernel
theorem dX4_takeTurned_0 : decode cX4_takeTurned 0 = .ok (.aload_n 0, 1) := dec_42 (gB drcX4_takeTurned_0 0 rfl rfl)
theorem dX4_takeTurned_1 : decode cX4_takeTurned 1 = .ok (.invokevirtual 31, 3) := e_182 (x := 0) (y := 31) drcX4_takeTurned_0 1 rfl rfl
theorem dX4_takeTurned_4 : decode cX4_takeTurned 4 = .ok (.aload_n 1, 1) := dec_43 (gB drcX4_takeTurned_0 4 rfl rfl)
theorem dX4_takeTurned_5 : decode cX4_takeTurned 5 = .ok (.getfield 15, 3) := e_180 (x := 0) (y := 15) drcX4_takeTurned_0 5 rfl rfl
theorem dX4_takeTurned_8 : decode cX4_takeTurned 8 = .ok (.iconst 1, 1) := dec_4 (gB drcX4_takeTurned_0 8 rfl rfl)
theorem dX4_takeTurned_9 : decode cX4_takeTurned 9 = .ok (.isub, 1) := dec_100 (gB drcX4_takeTurned_0 9 rfl rfl)
theorem dX4_takeTurned_10 : decode cX4_takeTurned 10 = .ok (.istore_n 2, 1) := dec_61 (gB drcX4_takeTurned_0 10 rfl rfl)
theorem dX4_takeTurned_11 : decode cX4_takeTurned 11 = .ok (.iload_n 2, 1) := dec_28 (gB drcX4_takeTurned_0 11 rfl rfl)
theorem dX4_takeTurned_12 : decode cX4_takeTurned 12 = .ok (.ifCond .lt 18, 3) := e_155 (x := 0) (y := 18) drcX4_takeTurned_0 12 rfl rfl
theorem dX4_takeTurned_15 : decode cX4_takeTurned 15 = .ok (.aload_n 0, 1) := dec_42 (gB drcX4_takeTurned_0 15 rfl rfl)
theorem dX4_takeTurned_16 : decode cX4_takeTurned 16 = .ok (.aload_n 1, 1) := dec_43 (gB drcX4_takeTurned_0 16 rfl rfl)
theorem dX4_takeTurned_17 : decode cX4_takeTurned 17 = .ok (.iload_n 2, 1) := dec_28 (gB drcX4_takeTurned_0 17 rfl rfl)
theorem dX4_takeTurned_18 : decode cX4_takeTurned 18 = .ok (.invokevirtual 19, 3) := e_182 (x := 0) (y := 19) drcX4_takeTurned_0 18 rfl rfl
theorem dX4_takeTurned_21 : decode cX4_takeTurned 21 = .ok (.invokevirtual 23, 3) := e_182 (x := 0) (y := 23) drcX4_takeTurned_0 21 rfl rfl
theorem dX4_takeTurned_24 : decode cX4_takeTurned 24 = .ok (.iinc 2 (-1), 3) := e_132 (x := 2) (y := 255) drcX4_takeTurned_0 24 rfl rfl
theorem dX4_takeTurned_27 : decode cX4_takeTurned 27 = .ok (.goto (-16), 3) := e_167 (x := 255) (y := 240) drcX4_takeTurned_0 27 rfl rfl
theorem dX4_takeTurned_30 : decode cX4_takeTurned 30 = .ok (.return_, 1) := dec_177 (gB drcX4_takeTurned_0 30 rfl rfl)
def lkcX4_takeCode_0 : List UInt8 := [0x2a, 0xb6, 0x00, 0x1f, 0x03, 0x3d, 0x10, 0x0f, 0x3e, 0x1d, 0x9b, 0x00, 0x32, 0x1b, 0x1d, 0x7a, 0x04, 0x7e, 0x04, 0xa0, 0x00, 0x07, 0x04, 0xa7, 0x00, 0x04, 0x03, 0x36, 0x04, 0x1c, 0x99, 0x00, 0x09, 0x2a, 0x15, 0x04, 0xb6, 0x00, 0x17, 0x1c, 0x9a, 0x00, 0x08, 0x15, 0x04, 0x99, 0x00, 0x07, 0x04, 0xa7, 0x00, 0x04, 0x03, 0x3d, 0x84, 0x03, 0xff, 0xa7, 0xff, 0xd0, 0xb1]
def tkcX4_takeCode_0 : List UInt8 := lkcX4_takeCode_0 ++ []
theorem drcX4_takeCode_0 : (cX4_takeCode).data.toList.drop 0 = lkcX4_takeCode_0 ++ [] := by decide +kernel
theorem dX4_takeCode_0 : decode cX4_takeCode 0 = .ok (.aload_n 0, 1) := dec_42 (gB drcX4_takeCode_0 0 rfl rfl)
theorem dX4_takeCode_1 : decode cX4_takeCode 1 = .ok (.invokevirtual 31, 3) := e_182 (x := 0) (y := 31) drcX4_takeCode_0 1 rfl rfl
theorem dX4_takeCode_4 : decode cX4_takeCode 4 = .ok (.iconst 0, 1) := dec_3 (gB drcX4_takeCode_0 4 rfl rfl)
theorem dX4_takeCode_5 : decode cX4_takeCode 5 = .ok (.istore_n 2, 1) := dec_61 (gB drcX4_takeCode_0 5 rfl rfl)
theorem dX4_takeCode_6 : decode cX4_takeCode 6 = .ok (.bipush 15, 2) := e_16 (x := 15) drcX4_takeCode_0 6 rfl rfl
theorem dX4_takeCode_8 : decode cX4_takeCode 8 = .ok (.istore_n 3, 1) := dec_62 (gB drcX4_takeCode_0 8 rfl rfl)
theorem dX4_takeCode_9 : decode cX4_takeCode 9 = .ok (.iload_n 3, 1) := dec_29 (gB drcX4_takeCode_0 9 rfl rfl)
theorem dX4_takeCode_10 : decode cX4_takeCode 10 = .ok (.ifCond .lt 50, 3) := e_155 (x := 0) (y := 50) drcX4_takeCode_0 10 rfl rfl
theorem dX4_takeCode_13 : decode cX4_takeCode 13 = .ok (.iload_n 1, 1) := dec_27 (gB drcX4_takeCode_0 13 rfl rfl)
theorem dX4_takeCode_14 : decode cX4_takeCode 14 = .ok (.iload_n 3, 1) := dec_29 (gB drcX4_takeCode_0 14 rfl rfl)
theorem dX4_takeCode_15 : decode cX4_takeCode 15 = .ok (.ishr, 1) := dec_122 (gB drcX4_takeCode_0 15 rfl rfl)
theorem dX4_takeCode_16 : decode cX4_takeCode 16 = .ok (.iconst 1, 1) := dec_4 (gB drcX4_takeCode_0 16 rfl rfl)
theorem dX4_takeCode_17 : decode cX4_takeCode 17 = .ok (.iand, 1) := dec_126 (gB drcX4_takeCode_0 17 rfl rfl)
theorem dX4_takeCode_18 : decode cX4_takeCode 18 = .ok (.iconst 1, 1) := dec_4 (gB drcX4_takeCode_0 18 rfl rfl)
theorem dX4_takeCode_19 : decode cX4_takeCode 19 = .ok (.if_icmp .ne 7, 3) := e_160 (x := 0) (y := 7) drcX4_takeCode_0 19 rfl rfl
theorem dX4_takeCode_22 : decode cX4_takeCode 22 = .ok (.iconst 1, 1) := dec_4 (gB drcX4_takeCode_0 22 rfl rfl)
theorem dX4_takeCode_23 : decode cX4_takeCode 23 = .ok (.goto 4, 3) := e_167 (x := 0) (y := 4) drcX4_takeCode_0 23 rfl rfl
theorem dX4_takeCode_26 : decode cX4_takeCode 26 = .ok (.iconst 0, 1) := dec_3 (gB drcX4_takeCode_0 26 rfl rfl)
theorem dX4_takeCode_27 : decode cX4_takeCode 27 = .ok (.istore 4, 2) := e_54 (x := 4) drcX4_takeCode_0 27 rfl rfl
theorem dX4_takeCode_29 : decode cX4_takeCode 29 = .ok (.iload_n 2, 1) := dec_28 (gB drcX4_takeCode_0 29 rfl rfl)
theorem dX4_takeCode_30 : decode cX4_takeCode 30 = .ok (.ifCond .eq 9, 3) := e_153 (x := 0) (y := 9) drcX4_takeCode_0 30 rfl rfl
theorem dX4_takeCode_33 : decode cX4_takeCode 33 = .ok (.aload_n 0, 1) := dec_42 (gB drcX4_takeCode_0 33 rfl rfl)
theorem dX4_takeCode_34 : decode cX4_takeCode 34 = .ok (.iload 4, 2) := e_21 (x := 4) drcX4_takeCode_0 34 rfl rfl
theorem dX4_takeCode_36 : decode cX4_takeCode 36 = .ok (.invokevirtual 23, 3) := e_182 (x := 0) (y := 23) drcX4_takeCode_0 36 rfl rfl
theorem dX4_takeCode_39 : decode cX4_takeCode 39 = .ok (.iload_n 2, 1) := dec_28 (gB drcX4_takeCode_0 39 rfl rfl)
theorem dX4_takeCode_40 : decode cX4_takeCode 40 = .ok (.ifCond .ne 8, 3) := e_154 (x := 0) (y := 8) drcX4_takeCode_0 40 rfl rfl
theorem dX4_takeCode_43 : decode cX4_takeCode 43 = .ok (.iload 4, 2) := e_21 (x := 4) drcX4_takeCode_0 43 rfl rfl
theorem dX4_takeCode_45 : decode cX4_takeCode 45 = .ok (.ifCond .eq 7, 3) := e_153 (x := 0) (y := 7) drcX4_takeCode_0 45 rfl rfl
theorem dX4_takeCode_48 : decode cX4_takeCode 48 = .ok (.iconst 1, 1) := dec_4 (gB drcX4_takeCode_0 48 rfl rfl)
theorem dX4_takeCode_49 : decode cX4_takeCode 49 = .ok (.goto 4, 3) := e_167 (x := 0) (y := 4) drcX4_takeCode_0 49 rfl rfl
theorem dX4_takeCode_52 : decode cX4_takeCode 52 = .ok (.iconst 0, 1) := dec_3 (gB drcX4_takeCode_0 52 rfl rfl)
theorem dX4_takeCode_53 : decode cX4_takeCode 53 = .ok (.istore_n 2, 1) := dec_61 (gB drcX4_takeCode_0 53 rfl rfl)
theorem dX4_takeCode_54 : decode cX4_takeCode 54 = .ok (.iinc 3 (-1), 3) := e_132 (x := 3) (y := 255) drcX4_takeCode_0 54 rfl rfl
theorem dX4_takeCode_57 : decode cX4_takeCode 57 = .ok (.goto (-48), 3) := e_167 (x := 255) (y := 208) drcX4_takeCode_0 57 rfl rfl
theorem dX4_takeCode_60 : decode cX4_takeCode 60 = .ok (.return_, 1) := dec_177 (gB drcX4_takeCode_0 60 rfl rfl)
def lkcX5_init_0 : List UInt8 := [0x2a, 0xb7, 0x00, 0x01, 0x2a, 0x06, 0xbd, 0x00, 0x09, 0xb5, 0x00, 0x0b, 0x2a, 0x05, 0xbd, 0x00, 0x0f, 0xb5, 0x00, 0x11, 0x2a, 0xbb, 0x00, 0x15, 0x59, 0xb7, 0x00, 0x17, 0xb5, 0x00, 0x18, 0x2a, 0xbb, 0x00, 0x09, 0x59, 0xb7, 0x00, 0x1c, 0xb5, 0x00, 0x1d, 0x2a, 0xbb, 0x00, 0x09, 0x59, 0xb7, 0x00, 0x1c, 0xb5, 0x00, 0x21, 0x03, 0x3c, 0x1b, 0x2a, 0xb4, 0x00, 0x0b, 0xbe, 0xa2, 0x00, 0x16]
def lkcX5_init_1 : List UInt8 := [0x2a, 0xb4, 0x00, 0x0b, 0x1b, 0xbb, 0x00, 0x09, 0x59, 0xb7, 0x00, 0x1c, 0x53, 0x84, 0x01, 0x01, 0xa7, 0xff, 0xe7, 0x03, 0x3c, 0x1b, 0x2a, 0xb4, 0x00, 0x11, 0xbe, 0xa2, 0x00, 0x16, 0x2a, 0xb4, 0x00, 0x11, 0x1b, 0xbb, 0x00, 0x0f, 0x59, 0xb7, 0x00, 0x24, 0x53, 0x84, 0x01, 0x01, 0xa7, 0xff, 0xe7, 0xb1]
def tkcX5_init_1 : List UInt8 := lkcX5_init_1 ++ []
def tkcX5_init_0 : List UInt8 := lkcX5_init_0 ++ tkcX5_init_1
theorem drcX5_init_0 : (cX5_init).data.toList.drop 0 = lkcX5_init_0 ++ tkcX5_init_1 := by decide +kernel
theorem drcX5_init_1 : (cX5_init).data.toList.drop 64 = lkcX5_init_1 ++ [] := dr_step drcX5_init_0 rfl
theorem dX5_init_0 : decode cX5_init 0 = .ok (.aload_n 0, 1) := dec_42 (gB drcX5_init_0 0 rfl rfl)
theorem dX5_init_1 : decode cX5_init 1 = .ok (.invokespecial 1, 3) := e_183 (x := 0) (y := 1) drcX5_init_0 1 rfl rfl
theorem dX5_init_4 : decode cX5_init 4 = .ok (.aload_n 0, 1) := dec_42 (gB drcX5_init_0 4 rfl rfl)
theorem dX5_init_5 : decode cX5_init 5 = .ok (.iconst 3, 1) := dec_6 (gB drcX5_init_0 5 rfl rfl)
theorem dX5_init_6 : decode cX5_init 6 = .ok (.anewarray 9, 3) := e_189 (x := 0) (y := 9) drcX5_init_0 6 rfl rfl
theorem dX5_init_9 : decode cX5_init 9 = .ok (.putfield 11, 3) := e_181 (x := 0) (y := 11) drcX5_init_0 9 rfl rfl
theorem dX5_init_12 : decode cX5_init 12 = .ok (.aload_n 0, 1) := dec_42 (gB drcX5_init_0 12 rfl rfl)
theorem dX5_init_13 : decode cX5_init 13 = .ok (.iconst 2, 1) := dec_5 (gB drcX5_init_0 13 rfl rfl)
theorem dX5_init_14 : decode cX5_init 14 = .ok (.anewarray 15, 3) := e_189 (x := 0) (y := 15) drcX5_init_0 14 rfl rfl
theorem dX5_init_17 : decode cX5_init 17 = .ok (.putfield 17, 3) := e_181 (x := 0) (y := 17) drcX5_init_0 17 rfl rfl
theorem dX5_init_20 : decode cX5_init 20 = .ok (.aload_n 0, 1) := dec_42 (gB drcX5_init_0 20 rfl rfl)
theorem dX5_init_21 : decode cX5_init 21 = .ok (.new 21, 3) := e_187 (x := 0) (y := 21) drcX5_init_0 21 rfl rfl
theorem dX5_init_24 : decode cX5_init 24 = .ok (.dup, 1) := dec_89 (gB drcX5_init_0 24 rfl rfl)
theorem dX5_init_25 : decode cX5_init 25 = .ok (.invokespecial 23, 3) := e_183 (x := 0) (y := 23) drcX5_init_0 25 rfl rfl
theorem dX5_init_28 : decode cX5_init 28 = .ok (.putfield 24, 3) := e_181 (x := 0) (y := 24) drcX5_init_0 28 rfl rfl
theorem dX5_init_31 : decode cX5_init 31 = .ok (.aload_n 0, 1) := dec_42 (gB drcX5_init_0 31 rfl rfl)
theorem dX5_init_32 : decode cX5_init 32 = .ok (.new 9, 3) := e_187 (x := 0) (y := 9) drcX5_init_0 32 rfl rfl
theorem dX5_init_35 : decode cX5_init 35 = .ok (.dup, 1) := dec_89 (gB drcX5_init_0 35 rfl rfl)
theorem dX5_init_36 : decode cX5_init 36 = .ok (.invokespecial 28, 3) := e_183 (x := 0) (y := 28) drcX5_init_0 36 rfl rfl
theorem dX5_init_39 : decode cX5_init 39 = .ok (.putfield 29, 3) := e_181 (x := 0) (y := 29) drcX5_init_0 39 rfl rfl
theorem dX5_init_42 : decode cX5_init 42 = .ok (.aload_n 0, 1) := dec_42 (gB drcX5_init_0 42 rfl rfl)
theorem dX5_init_43 : decode cX5_init 43 = .ok (.new 9, 3) := e_187 (x := 0) (y := 9) drcX5_init_0 43 rfl rfl
theorem dX5_init_46 : decode cX5_init 46 = .ok (.dup, 1) := dec_89 (gB drcX5_init_0 46 rfl rfl)
theorem dX5_init_47 : decode cX5_init 47 = .ok (.invokespecial 28, 3) := e_183 (x := 0) (y := 28) drcX5_init_0 47 rfl rfl
theorem dX5_init_50 : decode cX5_init 50 = .ok (.putfield 33, 3) := e_181 (x := 0) (y := 33) drcX5_init_0 50 rfl rfl
theorem dX5_init_53 : decode cX5_init 53 = .ok (.iconst 0, 1) := dec_3 (gB drcX5_init_0 53 rfl rfl)
theorem dX5_init_54 : decode cX5_init 54 = .ok (.istore_n 1, 1) := dec_60 (gB drcX5_init_0 54 rfl rfl)
theorem dX5_init_55 : decode cX5_init 55 = .ok (.iload_n 1, 1) := dec_27 (gB drcX5_init_0 55 rfl rfl)
theorem dX5_init_56 : decode cX5_init 56 = .ok (.aload_n 0, 1) := dec_42 (gB drcX5_init_0 56 rfl rfl)
theorem dX5_init_57 : decode cX5_init 57 = .ok (.getfield 11, 3) := e_180 (x := 0) (y := 11) drcX5_init_0 57 rfl rfl
theorem dX5_init_60 : decode cX5_init 60 = .ok (.arraylength, 1) := dec_190 (gB drcX5_init_0 60 rfl rfl)
theorem dX5_init_61 : decode cX5_init 61 = .ok (.if_icmp .ge 22, 3) := e_162 (x := 0) (y := 22) drcX5_init_0 61 rfl rfl
theorem dX5_init_64 : decode cX5_init 64 = .ok (.aload_n 0, 1) := dec_42 (gB drcX5_init_1 0 rfl rfl)
theorem dX5_init_65 : decode cX5_init 65 = .ok (.getfield 11, 3) := e_180 (x := 0) (y := 11) drcX5_init_1 1 rfl rfl
theorem dX5_init_68 : decode cX5_init 68 = .ok (.iload_n 1, 1) := dec_27 (gB drcX5_init_1 4 rfl rfl)
theorem dX5_init_69 : decode cX5_init 69 = .ok (.new 9, 3) := e_187 (x := 0) (y := 9) drcX5_init_1 5 rfl rfl
theorem dX5_init_72 : decode cX5_init 72 = .ok (.dup, 1) := dec_89 (gB drcX5_init_1 8 rfl rfl)
theorem dX5_init_73 : decode cX5_init 73 = .ok (.invokespecial 28, 3) := e_183 (x := 0) (y := 28) drcX5_init_1 9 rfl rfl
theorem dX5_init_76 : decode cX5_init 76 = .ok (.aastore, 1) := dec_83 (gB drcX5_init_1 12 rfl rfl)
theorem dX5_init_77 : decode cX5_init 77 = .ok (.iinc 1 1, 3) := e_132 (x := 1) (y := 1) drcX5_init_1 13 rfl rfl
theorem dX5_init_80 : decode cX5_init 80 = .ok (.goto (-25), 3) := e_167 (x := 255) (y := 231) drcX5_init_1 16 rfl rfl
theorem dX5_init_83 : decode cX5_init 83 = .ok (.iconst 0, 1) := dec_3 (gB drcX5_init_1 19 rfl rfl)
theorem dX5_init_84 : decode cX5_init 84 = .ok (.istore_n 1, 1) := dec_60 (gB drcX5_init_1 20 rfl rfl)
theorem dX5_init_85 : decode cX5_init 85 = .ok (.iload_n 1, 1) := dec_27 (gB drcX5_init_1 21 rfl rfl)
theorem dX5_init_86 : decode cX5_init 86 = .ok (.aload_n 0, 1) := dec_42 (gB drcX5_init_1 22 rfl rfl)
theorem dX5_init_87 : decode cX5_init 87 = .ok (.getfield 17, 3) := e_180 (x := 0) (y := 17) drcX5_init_1 23 rfl rfl
theorem dX5_init_90 : decode cX5_init 90 = .ok (.arraylength, 1) := dec_190 (gB drcX5_init_1 26 rfl rfl)
theorem dX5_init_91 : decode cX5_init 91 = .ok (.if_icmp .ge 22, 3) := e_162 (x := 0) (y := 22) drcX5_init_1 27 rfl rfl
theorem dX5_init_94 : decode cX5_init 94 = .ok (.aload_n 0, 1) := dec_42 (gB drcX5_init_1 30 rfl rfl)
theorem dX5_init_95 : decode cX5_init 95 = .ok (.getfield 17, 3) := e_180 (x := 0) (y := 17) drcX5_init_1 31 rfl rfl
theorem dX5_init_98 : decode cX5_init 98 = .ok (.iload_n 1, 1) := dec_27 (gB drcX5_init_1 34 rfl rfl)
theorem dX5_init_99 : decode cX5_init 99 = .ok (.new 15, 3) := e_187 (x := 0) (y := 15) drcX5_init_1 35 rfl rfl
theorem dX5_init_102 : decode cX5_init 102 = .ok (.dup, 1) := dec_89 (gB drcX5_init_1 38 rfl rfl)
theorem dX5_init_103 : decode cX5_init 103 = .ok (.invokespecial 36, 3) := e_183 (x := 0) (y := 36) drcX5_init_1 39 rfl rfl
theorem dX5_init_106 : decode cX5_init 106 = .ok (.aastore, 1) := dec_83 (gB drcX5_init_1 42 rfl rfl)
theorem dX5_init_107 : decode cX5_init 107 = .ok (.iinc 1 1, 3) := e_132 (x := 1) (y := 1) drcX5_init_1 43 rfl rfl
theorem dX5_init_110 : decode cX5_init 110 = .ok (.goto (-25), 3) := e_167 (x := 255) (y := 231) drcX5_init_1 46 rfl rfl
theorem dX5_init_113 : decode cX5_init 113 = .ok (.return_, 1) := dec_177 (gB drcX5_init_1 49 rfl rfl)
def lkcX5_write_0 : List UInt8 := [0x2a, 0x1b, 0xb6, 0x00, 0x25, 0x4e, 0x1c, 0x04, 0xa1, 0x00, 0x0d, 0x1c, 0x12, 0x29, 0xa3, 0x00, 0x07, 0x04, 0xa7, 0x00, 0x04, 0x03, 0xb8, 0x00, 0x2a, 0x2d, 0x1c, 0xb6, 0x00, 0x2e, 0x2a, 0x2d, 0xb4, 0x00, 0x32, 0xb6, 0x00, 0x36, 0xac]
def tkcX5_write_0 : List UInt8 := lkcX5_write_0 ++ []
theorem drcX5_write_0 : (cX5_write).data.toList.drop 0 = lkcX5_write_0 ++ [] := by decide +kernel
theorem dX5_write_0 : decode cX5_write 0 = .ok (.aload_n 0, 1) := dec_42 (gB drcX5_write_0 0 rfl rfl)
theorem dX5_write_1 : decode cX5_write 1 = .ok (.iload_n 1, 1) := dec_27 (gB drcX5_write_0 1 rfl rfl)
theorem dX5_write_2 : decode cX5_write 2 = .ok (.invokevirtual 37, 3) := e_182 (x := 0) (y := 37) drcX5_write_0 2 rfl rfl
theorem dX5_write_5 : decode cX5_write 5 = .ok (.astore_n 3, 1) := dec_78 (gB drcX5_write_0 5 rfl rfl)
theorem dX5_write_6 : decode cX5_write 6 = .ok (.iload_n 2, 1) := dec_28 (gB drcX5_write_0 6 rfl rfl)
theorem dX5_write_7 : decode cX5_write 7 = .ok (.iconst 1, 1) := dec_4 (gB drcX5_write_0 7 rfl rfl)
theorem dX5_write_8 : decode cX5_write 8 = .ok (.if_icmp .lt 13, 3) := e_161 (x := 0) (y := 13) drcX5_write_0 8 rfl rfl
theorem dX5_write_11 : decode cX5_write 11 = .ok (.iload_n 2, 1) := dec_28 (gB drcX5_write_0 11 rfl rfl)
theorem dX5_write_12 : decode cX5_write 12 = .ok (.ldc 41, 2) := e_18 (x := 41) drcX5_write_0 12 rfl rfl
theorem dX5_write_14 : decode cX5_write 14 = .ok (.if_icmp .gt 7, 3) := e_163 (x := 0) (y := 7) drcX5_write_0 14 rfl rfl
theorem dX5_write_17 : decode cX5_write 17 = .ok (.iconst 1, 1) := dec_4 (gB drcX5_write_0 17 rfl rfl)
theorem dX5_write_18 : decode cX5_write 18 = .ok (.goto 4, 3) := e_167 (x := 0) (y := 4) drcX5_write_0 18 rfl rfl
theorem dX5_write_21 : decode cX5_write 21 = .ok (.iconst 0, 1) := dec_3 (gB drcX5_write_0 21 rfl rfl)
theorem dX5_write_22 : decode cX5_write 22 = .ok (.invokestatic 42, 3) := e_184 (x := 0) (y := 42) drcX5_write_0 22 rfl rfl
theorem dX5_write_25 : decode cX5_write 25 = .ok (.aload_n 3, 1) := dec_45 (gB drcX5_write_0 25 rfl rfl)
theorem dX5_write_26 : decode cX5_write 26 = .ok (.iload_n 2, 1) := dec_28 (gB drcX5_write_0 26 rfl rfl)
theorem dX5_write_27 : decode cX5_write 27 = .ok (.invokevirtual 46, 3) := e_182 (x := 0) (y := 46) drcX5_write_0 27 rfl rfl
theorem dX5_write_30 : decode cX5_write 30 = .ok (.aload_n 0, 1) := dec_42 (gB drcX5_write_0 30 rfl rfl)
theorem dX5_write_31 : decode cX5_write 31 = .ok (.aload_n 3, 1) := dec_45 (gB drcX5_write_0 31 rfl rfl)
theorem dX5_write_32 : decode cX5_write 32 = .ok (.getfield 50, 3) := e_180 (x := 0) (y := 50) drcX5_write_0 32 rfl rfl
theorem dX5_write_35 : decode cX5_write 35 = .ok (.invokevirtual 54, 3) := e_182 (x := 0) (y := 54) drcX5_write_0 35 rfl rfl
theorem dX5_write_38 : decode cX5_write 38 = .ok (.ireturn, 1) := dec_172 (gB drcX5_write_0 38 rfl rfl)
def lkcX5_append_0 : List UInt8 := [0x2a, 0x1b, 0xb6, 0x00, 0x25, 0x4e, 0x2a, 0x2d, 0x2d, 0xb4, 0x00, 0x32, 0x2d, 0xb4, 0x00, 0x32, 0x2a, 0x1c, 0xb6, 0x00, 0x25, 0xb6, 0x00, 0x3a, 0xac]
def tkcX5_append_0 : List UInt8 := lkcX5_append_0 ++ []
theorem drcX5_append_0 : (cX5_append).data.toList.drop 0 = lkcX5_append_0 ++ [] := by decide +kernel
theorem dX5_append_0 : decode cX5_append 0 = .ok (.aload_n 0, 1) := dec_42 (gB drcX5_append_0 0 rfl rfl)
theorem dX5_append_1 : decode cX5_append 1 = .ok (.iload_n 1, 1) := dec_27 (gB drcX5_append_0 1 rfl rfl)
theorem dX5_append_2 : decode cX5_append 2 = .ok (.invokevirtual 37, 3) := e_182 (x := 0) (y := 37) drcX5_append_0 2 rfl rfl
theorem dX5_append_5 : decode cX5_append 5 = .ok (.astore_n 3, 1) := dec_78 (gB drcX5_append_0 5 rfl rfl)
theorem dX5_append_6 : decode cX5_append 6 = .ok (.aload_n 0, 1) := dec_42 (gB drcX5_append_0 6 rfl rfl)
theorem dX5_append_7 : decode cX5_append 7 = .ok (.aload_n 3, 1) := dec_45 (gB drcX5_append_0 7 rfl rfl)
theorem dX5_append_8 : decode cX5_append 8 = .ok (.aload_n 3, 1) := dec_45 (gB drcX5_append_0 8 rfl rfl)
theorem dX5_append_9 : decode cX5_append 9 = .ok (.getfield 50, 3) := e_180 (x := 0) (y := 50) drcX5_append_0 9 rfl rfl
theorem dX5_append_12 : decode cX5_append 12 = .ok (.aload_n 3, 1) := dec_45 (gB drcX5_append_0 12 rfl rfl)
theorem dX5_append_13 : decode cX5_append 13 = .ok (.getfield 50, 3) := e_180 (x := 0) (y := 50) drcX5_append_0 13 rfl rfl
theorem dX5_append_16 : decode cX5_append 16 = .ok (.aload_n 0, 1) := dec_42 (gB drcX5_append_0 16 rfl rfl)
theorem dX5_append_17 : decode cX5_append 17 = .ok (.iload_n 2, 1) := dec_28 (gB drcX5_append_0 17 rfl rfl)
theorem dX5_append_18 : decode cX5_append 18 = .ok (.invokevirtual 37, 3) := e_182 (x := 0) (y := 37) drcX5_append_0 18 rfl rfl
theorem dX5_append_21 : decode cX5_append 21 = .ok (.invokevirtual 58, 3) := e_182 (x := 0) (y := 58) drcX5_append_0 21 rfl rfl
theorem dX5_append_24 : decode cX5_append 24 = .ok (.ireturn, 1) := dec_172 (gB drcX5_append_0 24 rfl rfl)
def lkcX5_insertSign_0 : List UInt8 := [0x2a, 0x1b, 0xb6, 0x00, 0x25, 0x3a, 0x04, 0x1c, 0x9b, 0x00, 0x10, 0x1c, 0x19, 0x04, 0xb4, 0x00, 0x32, 0xa3, 0x00, 0x07, 0x04, 0xa7, 0x00, 0x04, 0x03, 0xb8, 0x00, 0x3e, 0x2a, 0xb4, 0x00, 0x21, 0xb6, 0x00, 0x41, 0x2a, 0xb4, 0x00, 0x21, 0x1d, 0xb6, 0x00, 0x44, 0x2a, 0x19, 0x04, 0x1c, 0x1c, 0x2a, 0xb4, 0x00, 0x21, 0xb6, 0x00, 0x3a, 0xac]
def tkcX5_insertSign_0 : List UInt8 := lkcX5_insertSign_0 ++ []
theorem drcX5_insertSign_0 : (cX5_insertSign).data.toList.drop 0 = lkcX5_insertSign_0 ++ [] := by decide +kernel
theorem dX5_insertSign_0 : decode cX5_insertSign 0 = .ok (.aload_n 0, 1) := dec_42 (gB drcX5_insertSign_0 0 rfl rfl)
theorem dX5_insertSign_1 : decode cX5_insertSign 1 = .ok (.iload_n 1, 1) := dec_27 (gB drcX5_insertSign_0 1 rfl rfl)
theorem dX5_insertSign_2 : decode cX5_insertSign 2 = .ok (.invokevirtual 37, 3) := e_182 (x := 0) (y := 37) drcX5_insertSign_0 2 rfl rfl
theorem dX5_insertSign_5 : decode cX5_insertSign 5 = .ok (.astore 4, 2) := e_58 (x := 4) drcX5_insertSign_0 5 rfl rfl
theorem dX5_insertSign_7 : decode cX5_insertSign 7 = .ok (.iload_n 2, 1) := dec_28 (gB drcX5_insertSign_0 7 rfl rfl)
theorem dX5_insertSign_8 : decode cX5_insertSign 8 = .ok (.ifCond .lt 16, 3) := e_155 (x := 0) (y := 16) drcX5_insertSign_0 8 rfl rfl
theorem dX5_insertSign_11 : decode cX5_insertSign 11 = .ok (.iload_n 2, 1) := dec_28 (gB drcX5_insertSign_0 11 rfl rfl)
theorem dX5_insertSign_12 : decode cX5_insertSign 12 = .ok (.aload 4, 2) := e_25 (x := 4) drcX5_insertSign_0 12 rfl rfl
theorem dX5_insertSign_14 : decode cX5_insertSign 14 = .ok (.getfield 50, 3) := e_180 (x := 0) (y := 50) drcX5_insertSign_0 14 rfl rfl
theorem dX5_insertSign_17 : decode cX5_insertSign 17 = .ok (.if_icmp .gt 7, 3) := e_163 (x := 0) (y := 7) drcX5_insertSign_0 17 rfl rfl
theorem dX5_insertSign_20 : decode cX5_insertSign 20 = .ok (.iconst 1, 1) := dec_4 (gB drcX5_insertSign_0 20 rfl rfl)
theorem dX5_insertSign_21 : decode cX5_insertSign 21 = .ok (.goto 4, 3) := e_167 (x := 0) (y := 4) drcX5_insertSign_0 21 rfl rfl
theorem dX5_insertSign_24 : decode cX5_insertSign 24 = .ok (.iconst 0, 1) := dec_3 (gB drcX5_insertSign_0 24 rfl rfl)
theorem dX5_insertSign_25 : decode cX5_insertSign 25 = .ok (.invokestatic 62, 3) := e_184 (x := 0) (y := 62) drcX5_insertSign_0 25 rfl rfl
theorem dX5_insertSign_28 : decode cX5_insertSign 28 = .ok (.aload_n 0, 1) := dec_42 (gB drcX5_insertSign_0 28 rfl rfl)
theorem dX5_insertSign_29 : decode cX5_insertSign 29 = .ok (.getfield 33, 3) := e_180 (x := 0) (y := 33) drcX5_insertSign_0 29 rfl rfl
theorem dX5_insertSign_32 : decode cX5_insertSign 32 = .ok (.invokevirtual 65, 3) := e_182 (x := 0) (y := 65) drcX5_insertSign_0 32 rfl rfl
theorem dX5_insertSign_35 : decode cX5_insertSign 35 = .ok (.aload_n 0, 1) := dec_42 (gB drcX5_insertSign_0 35 rfl rfl)
theorem dX5_insertSign_36 : decode cX5_insertSign 36 = .ok (.getfield 33, 3) := e_180 (x := 0) (y := 33) drcX5_insertSign_0 36 rfl rfl
theorem dX5_insertSign_39 : decode cX5_insertSign 39 = .ok (.iload_n 3, 1) := dec_29 (gB drcX5_insertSign_0 39 rfl rfl)
theorem dX5_insertSign_40 : decode cX5_insertSign 40 = .ok (.invokevirtual 68, 3) := e_182 (x := 0) (y := 68) drcX5_insertSign_0 40 rfl rfl
theorem dX5_insertSign_43 : decode cX5_insertSign 43 = .ok (.aload_n 0, 1) := dec_42 (gB drcX5_insertSign_0 43 rfl rfl)
theorem dX5_insertSign_44 : decode cX5_insertSign 44 = .ok (.aload 4, 2) := e_25 (x := 4) drcX5_insertSign_0 44 rfl rfl
theorem dX5_insertSign_46 : decode cX5_insertSign 46 = .ok (.iload_n 2, 1) := dec_28 (gB drcX5_insertSign_0 46 rfl rfl)
theorem dX5_insertSign_47 : decode cX5_insertSign 47 = .ok (.iload_n 2, 1) := dec_28 (gB drcX5_insertSign_0 47 rfl rfl)
theorem dX5_insertSign_48 : decode cX5_insertSign 48 = .ok (.aload_n 0, 1) := dec_42 (gB drcX5_insertSign_0 48 rfl rfl)
theorem dX5_insertSign_49 : decode cX5_insertSign 49 = .ok (.getfield 33, 3) := e_180 (x := 0) (y := 33) drcX5_insertSign_0 49 rfl rfl
theorem dX5_insertSign_52 : decode cX5_insertSign 52 = .ok (.invokevirtual 58, 3) := e_182 (x := 0) (y := 58) drcX5_insertSign_0 52 rfl rfl
theorem dX5_insertSign_55 : decode cX5_insertSign 55 = .ok (.ireturn, 1) := dec_172 (gB drcX5_insertSign_0 55 rfl rfl)
def lkcX5_insertSheet_0 : List UInt8 := [0x2a, 0x1b, 0xb6, 0x00, 0x25, 0x3a, 0x04, 0x2a, 0x1d, 0xb6, 0x00, 0x25, 0x3a, 0x05, 0x1c, 0x9b, 0x00, 0x10, 0x1c, 0x19, 0x04, 0xb4, 0x00, 0x32, 0xa3, 0x00, 0x07, 0x04, 0xa7, 0x00, 0x04, 0x03, 0xb8, 0x00, 0x3e, 0x2a, 0x19, 0x04, 0x1c, 0x1c, 0x19, 0x05, 0xb6, 0x00, 0x3a, 0xac]
def tkcX5_insertSheet_0 : List UInt8 := lkcX5_insertSheet_0 ++ []
theorem drcX5_insertSheet_0 : (cX5_insertSheet).data.toList.drop 0 = lkcX5_insertSheet_0 ++ [] := by decide +kernel
theorem dX5_insertSheet_0 : decode cX5_insertSheet 0 = .ok (.aload_n 0, 1) := dec_42 (gB drcX5_insertSheet_0 0 rfl rfl)
theorem dX5_insertSheet_1 : decode cX5_insertSheet 1 = .ok (.iload_n 1, 1) := dec_27 (gB drcX5_insertSheet_0 1 rfl rfl)
theorem dX5_insertSheet_2 : decode cX5_insertSheet 2 = .ok (.invokevirtual 37, 3) := e_182 (x := 0) (y := 37) drcX5_insertSheet_0 2 rfl rfl
theorem dX5_insertSheet_5 : decode cX5_insertSheet 5 = .ok (.astore 4, 2) := e_58 (x := 4) drcX5_insertSheet_0 5 rfl rfl
theorem dX5_insertSheet_7 : decode cX5_insertSheet 7 = .ok (.aload_n 0, 1) := dec_42 (gB drcX5_insertSheet_0 7 rfl rfl)
theorem dX5_insertSheet_8 : decode cX5_insertSheet 8 = .ok (.iload_n 3, 1) := dec_29 (gB drcX5_insertSheet_0 8 rfl rfl)
theorem dX5_insertSheet_9 : decode cX5_insertSheet 9 = .ok (.invokevirtual 37, 3) := e_182 (x := 0) (y := 37) drcX5_insertSheet_0 9 rfl rfl
theorem dX5_insertSheet_12 : decode cX5_insertSheet 12 = .ok (.astore 5, 2) := e_58 (x := 5) drcX5_insertSheet_0 12 rfl rfl
theorem dX5_insertSheet_14 : decode cX5_insertSheet 14 = .ok (.iload_n 2, 1) := dec_28 (gB drcX5_insertSheet_0 14 rfl rfl)
theorem dX5_insertSheet_15 : decode cX5_insertSheet 15 = .ok (.ifCond .lt 16, 3) := e_155 (x := 0) (y := 16) drcX5_insertSheet_0 15 rfl rfl
theorem dX5_insertSheet_18 : decode cX5_insertSheet 18 = .ok (.iload_n 2, 1) := dec_28 (gB drcX5_insertSheet_0 18 rfl rfl)
theorem dX5_insertSheet_19 : decode cX5_insertSheet 19 = .ok (.aload 4, 2) := e_25 (x := 4) drcX5_insertSheet_0 19 rfl rfl
theorem dX5_insertSheet_21 : decode cX5_insertSheet 21 = .ok (.getfield 50, 3) := e_180 (x := 0) (y := 50) drcX5_insertSheet_0 21 rfl rfl
theorem dX5_insertSheet_24 : decode cX5_insertSheet 24 = .ok (.if_icmp .gt 7, 3) := e_163 (x := 0) (y := 7) drcX5_insertSheet_0 24 rfl rfl
theorem dX5_insertSheet_27 : decode cX5_insertSheet 27 = .ok (.iconst 1, 1) := dec_4 (gB drcX5_insertSheet_0 27 rfl rfl)
theorem dX5_insertSheet_28 : decode cX5_insertSheet 28 = .ok (.goto 4, 3) := e_167 (x := 0) (y := 4) drcX5_insertSheet_0 28 rfl rfl
theorem dX5_insertSheet_31 : decode cX5_insertSheet 31 = .ok (.iconst 0, 1) := dec_3 (gB drcX5_insertSheet_0 31 rfl rfl)
theorem dX5_insertSheet_32 : decode cX5_insertSheet 32 = .ok (.invokestatic 62, 3) := e_184 (x := 0) (y := 62) drcX5_insertSheet_0 32 rfl rfl
theorem dX5_insertSheet_35 : decode cX5_insertSheet 35 = .ok (.aload_n 0, 1) := dec_42 (gB drcX5_insertSheet_0 35 rfl rfl)
theorem dX5_insertSheet_36 : decode cX5_insertSheet 36 = .ok (.aload 4, 2) := e_25 (x := 4) drcX5_insertSheet_0 36 rfl rfl
theorem dX5_insertSheet_38 : decode cX5_insertSheet 38 = .ok (.iload_n 2, 1) := dec_28 (gB drcX5_insertSheet_0 38 rfl rfl)
theorem dX5_insertSheet_39 : decode cX5_insertSheet 39 = .ok (.iload_n 2, 1) := dec_28 (gB drcX5_insertSheet_0 39 rfl rfl)
theorem dX5_insertSheet_40 : decode cX5_insertSheet 40 = .ok (.aload 5, 2) := e_25 (x := 5) drcX5_insertSheet_0 40 rfl rfl
theorem dX5_insertSheet_42 : decode cX5_insertSheet 42 = .ok (.invokevirtual 58, 3) := e_182 (x := 0) (y := 58) drcX5_insertSheet_0 42 rfl rfl
theorem dX5_insertSheet_45 : decode cX5_insertSheet 45 = .ok (.ireturn, 1) := dec_172 (gB drcX5_insertSheet_0 45 rfl rfl)
def lkcX5_setSign_0 : List UInt8 := [0x2a, 0x1b, 0xb6, 0x00, 0x25, 0x3a, 0x04, 0x1c, 0x9b, 0x00, 0x10, 0x1c, 0x19, 0x04, 0xb4, 0x00, 0x32, 0xa2, 0x00, 0x07, 0x04, 0xa7, 0x00, 0x04, 0x03, 0xb8, 0x00, 0x3e, 0x19, 0x04, 0x1c, 0xb6, 0x00, 0x47, 0x1d, 0x9f, 0x00, 0x07, 0x04, 0xa7, 0x00, 0x04, 0x03, 0x36, 0x05, 0x19, 0x04, 0x1c, 0x1d, 0xb6, 0x00, 0x4b, 0x2a, 0x15, 0x05, 0xb8, 0x00, 0x4f, 0xb6, 0x00, 0x36, 0xac]
def tkcX5_setSign_0 : List UInt8 := lkcX5_setSign_0 ++ []
theorem drcX5_setSign_0 : (cX5_setSign).data.toList.drop 0 = lkcX5_setSign_0 ++ [] := by decide +kernel
theorem dX5_setSign_0 : decode cX5_setSign 0 = .ok (.aload_n 0, 1) := dec_42 (gB drcX5_setSign_0 0 rfl rfl)
theorem dX5_setSign_1 : decode cX5_setSign 1 = .ok (.iload_n 1, 1) := dec_27 (gB drcX5_setSign_0 1 rfl rfl)
theorem dX5_setSign_2 : decode cX5_setSign 2 = .ok (.invokevirtual 37, 3) := e_182 (x := 0) (y := 37) drcX5_setSign_0 2 rfl rfl
theorem dX5_setSign_5 : decode cX5_setSign 5 = .ok (.astore 4, 2) := e_58 (x := 4) drcX5_setSign_0 5 rfl rfl
theorem dX5_setSign_7 : decode cX5_setSign 7 = .ok (.iload_n 2, 1) := dec_28 (gB drcX5_setSign_0 7 rfl rfl)
theorem dX5_setSign_8 : decode cX5_setSign 8 = .ok (.ifCond .lt 16, 3) := e_155 (x := 0) (y := 16) drcX5_setSign_0 8 rfl rfl
theorem dX5_setSign_11 : decode cX5_setSign 11 = .ok (.iload_n 2, 1) := dec_28 (gB drcX5_setSign_0 11 rfl rfl)
theorem dX5_setSign_12 : decode cX5_setSign 12 = .ok (.aload 4, 2) := e_25 (x := 4) drcX5_setSign_0 12 rfl rfl
theorem dX5_setSign_14 : decode cX5_setSign 14 = .ok (.getfield 50, 3) := e_180 (x := 0) (y := 50) drcX5_setSign_0 14 rfl rfl
theorem dX5_setSign_17 : decode cX5_setSign 17 = .ok (.if_icmp .ge 7, 3) := e_162 (x := 0) (y := 7) drcX5_setSign_0 17 rfl rfl
theorem dX5_setSign_20 : decode cX5_setSign 20 = .ok (.iconst 1, 1) := dec_4 (gB drcX5_setSign_0 20 rfl rfl)
theorem dX5_setSign_21 : decode cX5_setSign 21 = .ok (.goto 4, 3) := e_167 (x := 0) (y := 4) drcX5_setSign_0 21 rfl rfl
theorem dX5_setSign_24 : decode cX5_setSign 24 = .ok (.iconst 0, 1) := dec_3 (gB drcX5_setSign_0 24 rfl rfl)
theorem dX5_setSign_25 : decode cX5_setSign 25 = .ok (.invokestatic 62, 3) := e_184 (x := 0) (y := 62) drcX5_setSign_0 25 rfl rfl
theorem dX5_setSign_28 : decode cX5_setSign 28 = .ok (.aload 4, 2) := e_25 (x := 4) drcX5_setSign_0 28 rfl rfl
theorem dX5_setSign_30 : decode cX5_setSign 30 = .ok (.iload_n 2, 1) := dec_28 (gB drcX5_setSign_0 30 rfl rfl)
theorem dX5_setSign_31 : decode cX5_setSign 31 = .ok (.invokevirtual 71, 3) := e_182 (x := 0) (y := 71) drcX5_setSign_0 31 rfl rfl
theorem dX5_setSign_34 : decode cX5_setSign 34 = .ok (.iload_n 3, 1) := dec_29 (gB drcX5_setSign_0 34 rfl rfl)
theorem dX5_setSign_35 : decode cX5_setSign 35 = .ok (.if_icmp .eq 7, 3) := e_159 (x := 0) (y := 7) drcX5_setSign_0 35 rfl rfl
theorem dX5_setSign_38 : decode cX5_setSign 38 = .ok (.iconst 1, 1) := dec_4 (gB drcX5_setSign_0 38 rfl rfl)
theorem dX5_setSign_39 : decode cX5_setSign 39 = .ok (.goto 4, 3) := e_167 (x := 0) (y := 4) drcX5_setSign_0 39 rfl rfl
theorem dX5_setSign_42 : decode cX5_setSign 42 = .ok (.iconst 0, 1) := dec_3 (gB drcX5_setSign_0 42 rfl rfl)
theorem dX5_setSign_43 : decode cX5_setSign 43 = .ok (.istore 5, 2) := e_54 (x := 5) drcX5_setSign_0 43 rfl rfl
theorem dX5_setSign_45 : decode cX5_setSign 45 = .ok (.aload 4, 2) := e_25 (x := 4) drcX5_setSign_0 45 rfl rfl
theorem dX5_setSign_47 : decode cX5_setSign 47 = .ok (.iload_n 2, 1) := dec_28 (gB drcX5_setSign_0 47 rfl rfl)
theorem dX5_setSign_48 : decode cX5_setSign 48 = .ok (.iload_n 3, 1) := dec_29 (gB drcX5_setSign_0 48 rfl rfl)
theorem dX5_setSign_49 : decode cX5_setSign 49 = .ok (.invokevirtual 75, 3) := e_182 (x := 0) (y := 75) drcX5_setSign_0 49 rfl rfl
theorem dX5_setSign_52 : decode cX5_setSign 52 = .ok (.aload_n 0, 1) := dec_42 (gB drcX5_setSign_0 52 rfl rfl)
theorem dX5_setSign_53 : decode cX5_setSign 53 = .ok (.iload 5, 2) := e_21 (x := 5) drcX5_setSign_0 53 rfl rfl
theorem dX5_setSign_55 : decode cX5_setSign 55 = .ok (.invokestatic 79, 3) := e_184 (x := 0) (y := 79) drcX5_setSign_0 55 rfl rfl
theorem dX5_setSign_58 : decode cX5_setSign 58 = .ok (.invokevirtual 54, 3) := e_182 (x := 0) (y := 54) drcX5_setSign_0 58 rfl rfl
theorem dX5_setSign_61 : decode cX5_setSign 61 = .ok (.ireturn, 1) := dec_172 (gB drcX5_setSign_0 61 rfl rfl)
def lkcX5_removeSign_0 : List UInt8 := [0x2a, 0x1b, 0xb6, 0x00, 0x25, 0x4e, 0x1c, 0x9b, 0x00, 0x0f, 0x1c, 0x2d, 0xb4, 0x00, 0x32, 0xa2, 0x00, 0x07, 0x04, 0xa7, 0x00, 0x04, 0x03, 0xb8, 0x00, 0x3e, 0x2a, 0x2d, 0x1c, 0x1c, 0x04, 0x60, 0xb6, 0x00, 0x53, 0xac]
def tkcX5_removeSign_0 : List UInt8 := lkcX5_removeSign_0 ++ []
theorem drcX5_removeSign_0 : (cX5_removeSign).data.toList.drop 0 = lkcX5_removeSign_0 ++ [] := by decide +kernel
theorem dX5_removeSign_0 : decode cX5_removeSign 0 = .ok (.aload_n 0, 1) := dec_42 (gB drcX5_removeSign_0 0 rfl rfl)
theorem dX5_removeSign_1 : decode cX5_removeSign 1 = .ok (.iload_n 1, 1) := dec_27 (gB drcX5_removeSign_0 1 rfl rfl)
theorem dX5_removeSign_2 : decode cX5_removeSign 2 = .ok (.invokevirtual 37, 3) := e_182 (x := 0) (y := 37) drcX5_removeSign_0 2 rfl rfl
theorem dX5_removeSign_5 : decode cX5_removeSign 5 = .ok (.astore_n 3, 1) := dec_78 (gB drcX5_removeSign_0 5 rfl rfl)
theorem dX5_removeSign_6 : decode cX5_removeSign 6 = .ok (.iload_n 2, 1) := dec_28 (gB drcX5_removeSign_0 6 rfl rfl)
theorem dX5_removeSign_7 : decode cX5_removeSign 7 = .ok (.ifCond .lt 15, 3) := e_155 (x := 0) (y := 15) drcX5_removeSign_0 7 rfl rfl
theorem dX5_removeSign_10 : decode cX5_removeSign 10 = .ok (.iload_n 2, 1) := dec_28 (gB drcX5_removeSign_0 10 rfl rfl)
theorem dX5_removeSign_11 : decode cX5_removeSign 11 = .ok (.aload_n 3, 1) := dec_45 (gB drcX5_removeSign_0 11 rfl rfl)
theorem dX5_removeSign_12 : decode cX5_removeSign 12 = .ok (.getfield 50, 3) := e_180 (x := 0) (y := 50) drcX5_removeSign_0 12 rfl rfl
theorem dX5_removeSign_15 : decode cX5_removeSign 15 = .ok (.if_icmp .ge 7, 3) := e_162 (x := 0) (y := 7) drcX5_removeSign_0 15 rfl rfl
theorem dX5_removeSign_18 : decode cX5_removeSign 18 = .ok (.iconst 1, 1) := dec_4 (gB drcX5_removeSign_0 18 rfl rfl)
theorem dX5_removeSign_19 : decode cX5_removeSign 19 = .ok (.goto 4, 3) := e_167 (x := 0) (y := 4) drcX5_removeSign_0 19 rfl rfl
theorem dX5_removeSign_22 : decode cX5_removeSign 22 = .ok (.iconst 0, 1) := dec_3 (gB drcX5_removeSign_0 22 rfl rfl)
theorem dX5_removeSign_23 : decode cX5_removeSign 23 = .ok (.invokestatic 62, 3) := e_184 (x := 0) (y := 62) drcX5_removeSign_0 23 rfl rfl
theorem dX5_removeSign_26 : decode cX5_removeSign 26 = .ok (.aload_n 0, 1) := dec_42 (gB drcX5_removeSign_0 26 rfl rfl)
theorem dX5_removeSign_27 : decode cX5_removeSign 27 = .ok (.aload_n 3, 1) := dec_45 (gB drcX5_removeSign_0 27 rfl rfl)
theorem dX5_removeSign_28 : decode cX5_removeSign 28 = .ok (.iload_n 2, 1) := dec_28 (gB drcX5_removeSign_0 28 rfl rfl)
theorem dX5_removeSign_29 : decode cX5_removeSign 29 = .ok (.iload_n 2, 1) := dec_28 (gB drcX5_removeSign_0 29 rfl rfl)
theorem dX5_removeSign_30 : decode cX5_removeSign 30 = .ok (.iconst 1, 1) := dec_4 (gB drcX5_removeSign_0 30 rfl rfl)
theorem dX5_removeSign_31 : decode cX5_removeSign 31 = .ok (.iadd, 1) := dec_96 (gB drcX5_removeSign_0 31 rfl rfl)
theorem dX5_removeSign_32 : decode cX5_removeSign 32 = .ok (.invokevirtual 83, 3) := e_182 (x := 0) (y := 83) drcX5_removeSign_0 32 rfl rfl
theorem dX5_removeSign_35 : decode cX5_removeSign 35 = .ok (.ireturn, 1) := dec_172 (gB drcX5_removeSign_0 35 rfl rfl)
def lkcX5_remove_0 : List UInt8 := [0x2a, 0x1b, 0xb6, 0x00, 0x25, 0x3a, 0x04, 0x1c, 0x9b, 0x00, 0x15, 0x1c, 0x1d, 0xa3, 0x00, 0x10, 0x1d, 0x19, 0x04, 0xb4, 0x00, 0x32, 0xa3, 0x00, 0x07, 0x04, 0xa7, 0x00, 0x04, 0x03, 0xb8, 0x00, 0x3e, 0x2a, 0x19, 0x04, 0x1c, 0x1d, 0xb6, 0x00, 0x53, 0xac]
def tkcX5_remove_0 : List UInt8 := lkcX5_remove_0 ++ []
theorem drcX5_remove_0 : (cX5_remove).data.toList.drop 0 = lkcX5_remove_0 ++ [] := by decide +kernel
theorem dX5_remove_0 : decode cX5_remove 0 = .ok (.aload_n 0, 1) := dec_42 (gB drcX5_remove_0 0 rfl rfl)
theorem dX5_remove_1 : decode cX5_remove 1 = .ok (.iload_n 1, 1) := dec_27 (gB drcX5_remove_0 1 rfl rfl)
theorem dX5_remove_2 : decode cX5_remove 2 = .ok (.invokevirtual 37, 3) := e_182 (x := 0) (y := 37) drcX5_remove_0 2 rfl rfl
theorem dX5_remove_5 : decode cX5_remove 5 = .ok (.astore 4, 2) := e_58 (x := 4) drcX5_remove_0 5 rfl rfl
theorem dX5_remove_7 : decode cX5_remove 7 = .ok (.iload_n 2, 1) := dec_28 (gB drcX5_remove_0 7 rfl rfl)
theorem dX5_remove_8 : decode cX5_remove 8 = .ok (.ifCond .lt 21, 3) := e_155 (x := 0) (y := 21) drcX5_remove_0 8 rfl rfl
theorem dX5_remove_11 : decode cX5_remove 11 = .ok (.iload_n 2, 1) := dec_28 (gB drcX5_remove_0 11 rfl rfl)
theorem dX5_remove_12 : decode cX5_remove 12 = .ok (.iload_n 3, 1) := dec_29 (gB drcX5_remove_0 12 rfl rfl)
theorem dX5_remove_13 : decode cX5_remove 13 = .ok (.if_icmp .gt 16, 3) := e_163 (x := 0) (y := 16) drcX5_remove_0 13 rfl rfl
theorem dX5_remove_16 : decode cX5_remove 16 = .ok (.iload_n 3, 1) := dec_29 (gB drcX5_remove_0 16 rfl rfl)
theorem dX5_remove_17 : decode cX5_remove 17 = .ok (.aload 4, 2) := e_25 (x := 4) drcX5_remove_0 17 rfl rfl
theorem dX5_remove_19 : decode cX5_remove 19 = .ok (.getfield 50, 3) := e_180 (x := 0) (y := 50) drcX5_remove_0 19 rfl rfl
theorem dX5_remove_22 : decode cX5_remove 22 = .ok (.if_icmp .gt 7, 3) := e_163 (x := 0) (y := 7) drcX5_remove_0 22 rfl rfl
theorem dX5_remove_25 : decode cX5_remove 25 = .ok (.iconst 1, 1) := dec_4 (gB drcX5_remove_0 25 rfl rfl)
theorem dX5_remove_26 : decode cX5_remove 26 = .ok (.goto 4, 3) := e_167 (x := 0) (y := 4) drcX5_remove_0 26 rfl rfl
theorem dX5_remove_29 : decode cX5_remove 29 = .ok (.iconst 0, 1) := dec_3 (gB drcX5_remove_0 29 rfl rfl)
theorem dX5_remove_30 : decode cX5_remove 30 = .ok (.invokestatic 62, 3) := e_184 (x := 0) (y := 62) drcX5_remove_0 30 rfl rfl
theorem dX5_remove_33 : decode cX5_remove 33 = .ok (.aload_n 0, 1) := dec_42 (gB drcX5_remove_0 33 rfl rfl)
theorem dX5_remove_34 : decode cX5_remove 34 = .ok (.aload 4, 2) := e_25 (x := 4) drcX5_remove_0 34 rfl rfl
theorem dX5_remove_36 : decode cX5_remove 36 = .ok (.iload_n 2, 1) := dec_28 (gB drcX5_remove_0 36 rfl rfl)
theorem dX5_remove_37 : decode cX5_remove 37 = .ok (.iload_n 3, 1) := dec_29 (gB drcX5_remove_0 37 rfl rfl)
theorem dX5_remove_38 : decode cX5_remove 38 = .ok (.invokevirtual 83, 3) := e_182 (x := 0) (y := 83) drcX5_remove_0 38 rfl rfl
theorem dX5_remove_41 : decode cX5_remove 41 = .ok (.ireturn, 1) := dec_172 (gB drcX5_remove_0 41 rfl rfl)
def lkcX5_replace_0 : List UInt8 := [0x2a, 0x1b, 0xb6, 0x00, 0x25, 0x3a, 0x05, 0x2a, 0x15, 0x04, 0xb6, 0x00, 0x25, 0x3a, 0x06, 0x1c, 0x9b, 0x00, 0x15, 0x1c, 0x1d, 0xa3, 0x00, 0x10, 0x1d, 0x19, 0x05, 0xb4, 0x00, 0x32, 0xa3, 0x00, 0x07, 0x04, 0xa7, 0x00, 0x04, 0x03, 0xb8, 0x00, 0x3e, 0x2a, 0x19, 0x05, 0x1c, 0x1d, 0x19, 0x06, 0xb6, 0x00, 0x3a, 0xac]
def tkcX5_replace_0 : List UInt8 := lkcX5_replace_0 ++ []
theorem drcX5_replace_0 : (cX5_replace).data.toList.drop 0 = lkcX5_replace_0 ++ [] := by decide +kernel
theorem dX5_replace_0 : decode cX5_replace 0 = .ok (.aload_n 0, 1) := dec_42 (gB drcX5_replace_0 0 rfl rfl)
theorem dX5_replace_1 : decode cX5_replace 1 = .ok (.iload_n 1, 1) := dec_27 (gB drcX5_replace_0 1 rfl rfl)
theorem dX5_replace_2 : decode cX5_replace 2 = .ok (.invokevirtual 37, 3) := e_182 (x := 0) (y := 37) drcX5_replace_0 2 rfl rfl
theorem dX5_replace_5 : decode cX5_replace 5 = .ok (.astore 5, 2) := e_58 (x := 5) drcX5_replace_0 5 rfl rfl
theorem dX5_replace_7 : decode cX5_replace 7 = .ok (.aload_n 0, 1) := dec_42 (gB drcX5_replace_0 7 rfl rfl)
theorem dX5_replace_8 : decode cX5_replace 8 = .ok (.iload 4, 2) := e_21 (x := 4) drcX5_replace_0 8 rfl rfl
theorem dX5_replace_10 : decode cX5_replace 10 = .ok (.invokevirtual 37, 3) := e_182 (x := 0) (y := 37) drcX5_replace_0 10 rfl rfl
theorem dX5_replace_13 : decode cX5_replace 13 = .ok (.astore 6, 2) := e_58 (x := 6) drcX5_replace_0 13 rfl rfl
theorem dX5_replace_15 : decode cX5_replace 15 = .ok (.iload_n 2, 1) := dec_28 (gB drcX5_replace_0 15 rfl rfl)
theorem dX5_replace_16 : decode cX5_replace 16 = .ok (.ifCond .lt 21, 3) := e_155 (x := 0) (y := 21) drcX5_replace_0 16 rfl rfl
theorem dX5_replace_19 : decode cX5_replace 19 = .ok (.iload_n 2, 1) := dec_28 (gB drcX5_replace_0 19 rfl rfl)
theorem dX5_replace_20 : decode cX5_replace 20 = .ok (.iload_n 3, 1) := dec_29 (gB drcX5_replace_0 20 rfl rfl)
theorem dX5_replace_21 : decode cX5_replace 21 = .ok (.if_icmp .gt 16, 3) := e_163 (x := 0) (y := 16) drcX5_replace_0 21 rfl rfl
theorem dX5_replace_24 : decode cX5_replace 24 = .ok (.iload_n 3, 1) := dec_29 (gB drcX5_replace_0 24 rfl rfl)
theorem dX5_replace_25 : decode cX5_replace 25 = .ok (.aload 5, 2) := e_25 (x := 5) drcX5_replace_0 25 rfl rfl
theorem dX5_replace_27 : decode cX5_replace 27 = .ok (.getfield 50, 3) := e_180 (x := 0) (y := 50) drcX5_replace_0 27 rfl rfl
theorem dX5_replace_30 : decode cX5_replace 30 = .ok (.if_icmp .gt 7, 3) := e_163 (x := 0) (y := 7) drcX5_replace_0 30 rfl rfl
theorem dX5_replace_33 : decode cX5_replace 33 = .ok (.iconst 1, 1) := dec_4 (gB drcX5_replace_0 33 rfl rfl)
theorem dX5_replace_34 : decode cX5_replace 34 = .ok (.goto 4, 3) := e_167 (x := 0) (y := 4) drcX5_replace_0 34 rfl rfl
theorem dX5_replace_37 : decode cX5_replace 37 = .ok (.iconst 0, 1) := dec_3 (gB drcX5_replace_0 37 rfl rfl)
theorem dX5_replace_38 : decode cX5_replace 38 = .ok (.invokestatic 62, 3) := e_184 (x := 0) (y := 62) drcX5_replace_0 38 rfl rfl
theorem dX5_replace_41 : decode cX5_replace 41 = .ok (.aload_n 0, 1) := dec_42 (gB drcX5_replace_0 41 rfl rfl)
theorem dX5_replace_42 : decode cX5_replace 42 = .ok (.aload 5, 2) := e_25 (x := 5) drcX5_replace_0 42 rfl rfl
theorem dX5_replace_44 : decode cX5_replace 44 = .ok (.iload_n 2, 1) := dec_28 (gB drcX5_replace_0 44 rfl rfl)
theorem dX5_replace_45 : decode cX5_replace 45 = .ok (.iload_n 3, 1) := dec_29 (gB drcX5_replace_0 45 rfl rfl)
theorem dX5_replace_46 : decode cX5_replace 46 = .ok (.aload 6, 2) := e_25 (x := 6) drcX5_replace_0 46 rfl rfl
theorem dX5_replace_48 : decode cX5_replace 48 = .ok (.invokevirtual 58, 3) := e_182 (x := 0) (y := 58) drcX5_replace_0 48 rfl rfl
theorem dX5_replace_51 : decode cX5_replace 51 = .ok (.ireturn, 1) := dec_172 (gB drcX5_replace_0 51 rfl rfl)
def lkcX5_cutTo_0 : List UInt8 := [0x2a, 0x1b, 0xb6, 0x00, 0x25, 0x4e, 0x1c, 0x9b, 0x00, 0x0d, 0x1c, 0x10, 0x40, 0xa3, 0x00, 0x07, 0x04, 0xa7, 0x00, 0x04, 0x03, 0xb8, 0x00, 0x2a, 0x2d, 0xb4, 0x00, 0x32, 0x36, 0x04, 0x2a, 0xb4, 0x00, 0x1d, 0xb6, 0x00, 0x41, 0x2a, 0xb4, 0x00, 0x1d, 0x2d, 0x03, 0x15, 0x04, 0x1c, 0xb8, 0x00, 0x57, 0xb6, 0x00, 0x5d, 0x15, 0x04, 0x36, 0x05, 0x15, 0x05, 0x1c, 0xa2, 0x00, 0x11, 0x2a, 0xb4]
def lkcX5_cutTo_1 : List UInt8 := [0x00, 0x1d, 0x03, 0xb6, 0x00, 0x44, 0x84, 0x05, 0x01, 0xa7, 0xff, 0xef, 0x2d, 0x2a, 0xb4, 0x00, 0x1d, 0xb6, 0x00, 0x61, 0x2a, 0x15, 0x04, 0xb6, 0x00, 0x36, 0xac]
def tkcX5_cutTo_1 : List UInt8 := lkcX5_cutTo_1 ++ []
def tkcX5_cutTo_0 : List UInt8 := lkcX5_cutTo_0 ++ tkcX5_cutTo_1
theorem drcX5_cutTo_0 : (cX5_cutTo).data.toList.drop 0 = lkcX5_cutTo_0 ++ tkcX5_cutTo_1 := by decide +kernel
theorem drcX5_cutTo_1 : (cX5_cutTo).data.toList.drop 64 = lkcX5_cutTo_1 ++ [] := dr_step drcX5_cutTo_0 rfl
theorem dX5_cutTo_0 : decode cX5_cutTo 0 = .ok (.aload_n 0, 1) := dec_42 (gB drcX5_cutTo_0 0 rfl rfl)
theorem dX5_cutTo_1 : decode cX5_cutTo 1 = .ok (.iload_n 1, 1) := dec_27 (gB drcX5_cutTo_0 1 rfl rfl)
theorem dX5_cutTo_2 : decode cX5_cutTo 2 = .ok (.invokevirtual 37, 3) := e_182 (x := 0) (y := 37) drcX5_cutTo_0 2 rfl rfl
theorem dX5_cutTo_5 : decode cX5_cutTo 5 = .ok (.astore_n 3, 1) := dec_78 (gB drcX5_cutTo_0 5 rfl rfl)
theorem dX5_cutTo_6 : decode cX5_cutTo 6 = .ok (.iload_n 2, 1) := dec_28 (gB drcX5_cutTo_0 6 rfl rfl)
theorem dX5_cutTo_7 : decode cX5_cutTo 7 = .ok (.ifCond .lt 13, 3) := e_155 (x := 0) (y := 13) drcX5_cutTo_0 7 rfl rfl
theorem dX5_cutTo_10 : decode cX5_cutTo 10 = .ok (.iload_n 2, 1) := dec_28 (gB drcX5_cutTo_0 10 rfl rfl)
theorem dX5_cutTo_11 : decode cX5_cutTo 11 = .ok (.bipush 64, 2) := e_16 (x := 64) drcX5_cutTo_0 11 rfl rfl
theorem dX5_cutTo_13 : decode cX5_cutTo 13 = .ok (.if_icmp .gt 7, 3) := e_163 (x := 0) (y := 7) drcX5_cutTo_0 13 rfl rfl
theorem dX5_cutTo_16 : decode cX5_cutTo 16 = .ok (.iconst 1, 1) := dec_4 (gB drcX5_cutTo_0 16 rfl rfl)
theorem dX5_cutTo_17 : decode cX5_cutTo 17 = .ok (.goto 4, 3) := e_167 (x := 0) (y := 4) drcX5_cutTo_0 17 rfl rfl
theorem dX5_cutTo_20 : decode cX5_cutTo 20 = .ok (.iconst 0, 1) := dec_3 (gB drcX5_cutTo_0 20 rfl rfl)
theorem dX5_cutTo_21 : decode cX5_cutTo 21 = .ok (.invokestatic 42, 3) := e_184 (x := 0) (y := 42) drcX5_cutTo_0 21 rfl rfl
theorem dX5_cutTo_24 : decode cX5_cutTo 24 = .ok (.aload_n 3, 1) := dec_45 (gB drcX5_cutTo_0 24 rfl rfl)
theorem dX5_cutTo_25 : decode cX5_cutTo 25 = .ok (.getfield 50, 3) := e_180 (x := 0) (y := 50) drcX5_cutTo_0 25 rfl rfl
theorem dX5_cutTo_28 : decode cX5_cutTo 28 = .ok (.istore 4, 2) := e_54 (x := 4) drcX5_cutTo_0 28 rfl rfl
theorem dX5_cutTo_30 : decode cX5_cutTo 30 = .ok (.aload_n 0, 1) := dec_42 (gB drcX5_cutTo_0 30 rfl rfl)
theorem dX5_cutTo_31 : decode cX5_cutTo 31 = .ok (.getfield 29, 3) := e_180 (x := 0) (y := 29) drcX5_cutTo_0 31 rfl rfl
theorem dX5_cutTo_34 : decode cX5_cutTo 34 = .ok (.invokevirtual 65, 3) := e_182 (x := 0) (y := 65) drcX5_cutTo_0 34 rfl rfl
theorem dX5_cutTo_37 : decode cX5_cutTo 37 = .ok (.aload_n 0, 1) := dec_42 (gB drcX5_cutTo_0 37 rfl rfl)
theorem dX5_cutTo_38 : decode cX5_cutTo 38 = .ok (.getfield 29, 3) := e_180 (x := 0) (y := 29) drcX5_cutTo_0 38 rfl rfl
theorem dX5_cutTo_41 : decode cX5_cutTo 41 = .ok (.aload_n 3, 1) := dec_45 (gB drcX5_cutTo_0 41 rfl rfl)
theorem dX5_cutTo_42 : decode cX5_cutTo 42 = .ok (.iconst 0, 1) := dec_3 (gB drcX5_cutTo_0 42 rfl rfl)
theorem dX5_cutTo_43 : decode cX5_cutTo 43 = .ok (.iload 4, 2) := e_21 (x := 4) drcX5_cutTo_0 43 rfl rfl
theorem dX5_cutTo_45 : decode cX5_cutTo 45 = .ok (.iload_n 2, 1) := dec_28 (gB drcX5_cutTo_0 45 rfl rfl)
theorem dX5_cutTo_46 : decode cX5_cutTo 46 = .ok (.invokestatic 87, 3) := e_184 (x := 0) (y := 87) drcX5_cutTo_0 46 rfl rfl
theorem dX5_cutTo_49 : decode cX5_cutTo 49 = .ok (.invokevirtual 93, 3) := e_182 (x := 0) (y := 93) drcX5_cutTo_0 49 rfl rfl
theorem dX5_cutTo_52 : decode cX5_cutTo 52 = .ok (.iload 4, 2) := e_21 (x := 4) drcX5_cutTo_0 52 rfl rfl
theorem dX5_cutTo_54 : decode cX5_cutTo 54 = .ok (.istore 5, 2) := e_54 (x := 5) drcX5_cutTo_0 54 rfl rfl
theorem dX5_cutTo_56 : decode cX5_cutTo 56 = .ok (.iload 5, 2) := e_21 (x := 5) drcX5_cutTo_0 56 rfl rfl
theorem dX5_cutTo_58 : decode cX5_cutTo 58 = .ok (.iload_n 2, 1) := dec_28 (gB drcX5_cutTo_0 58 rfl rfl)
theorem dX5_cutTo_59 : decode cX5_cutTo 59 = .ok (.if_icmp .ge 17, 3) := e_162 (x := 0) (y := 17) drcX5_cutTo_0 59 rfl rfl
theorem dX5_cutTo_62 : decode cX5_cutTo 62 = .ok (.aload_n 0, 1) := dec_42 (gB drcX5_cutTo_0 62 rfl rfl)
theorem dX5_cutTo_63 : decode cX5_cutTo 63 = .ok (.getfield 29, 3) := dec_180 (a := 0) (b := 29) (gB drcX5_cutTo_0 63 rfl rfl) (gB drcX5_cutTo_1 0 rfl rfl) (gB drcX5_cutTo_1 1 rfl rfl)
theorem dX5_cutTo_66 : decode cX5_cutTo 66 = .ok (.iconst 0, 1) := dec_3 (gB drcX5_cutTo_1 2 rfl rfl)
theorem dX5_cutTo_67 : decode cX5_cutTo 67 = .ok (.invokevirtual 68, 3) := e_182 (x := 0) (y := 68) drcX5_cutTo_1 3 rfl rfl
theorem dX5_cutTo_70 : decode cX5_cutTo 70 = .ok (.iinc 5 1, 3) := e_132 (x := 5) (y := 1) drcX5_cutTo_1 6 rfl rfl
theorem dX5_cutTo_73 : decode cX5_cutTo 73 = .ok (.goto (-17), 3) := e_167 (x := 255) (y := 239) drcX5_cutTo_1 9 rfl rfl
theorem dX5_cutTo_76 : decode cX5_cutTo 76 = .ok (.aload_n 3, 1) := dec_45 (gB drcX5_cutTo_1 12 rfl rfl)
theorem dX5_cutTo_77 : decode cX5_cutTo 77 = .ok (.aload_n 0, 1) := dec_42 (gB drcX5_cutTo_1 13 rfl rfl)
theorem dX5_cutTo_78 : decode cX5_cutTo 78 = .ok (.getfield 29, 3) := e_180 (x := 0) (y := 29) drcX5_cutTo_1 14 rfl rfl
theorem dX5_cutTo_81 : decode cX5_cutTo 81 = .ok (.invokevirtual 97, 3) := e_182 (x := 0) (y := 97) drcX5_cutTo_1 17 rfl rfl
theorem dX5_cutTo_84 : decode cX5_cutTo 84 = .ok (.aload_n 0, 1) := dec_42 (gB drcX5_cutTo_1 20 rfl rfl)
theorem dX5_cutTo_85 : decode cX5_cutTo 85 = .ok (.iload 4, 2) := e_21 (x := 4) drcX5_cutTo_1 21 rfl rfl
theorem dX5_cutTo_87 : decode cX5_cutTo 87 = .ok (.invokevirtual 54, 3) := e_182 (x := 0) (y := 54) drcX5_cutTo_1 23 rfl rfl
theorem dX5_cutTo_90 : decode cX5_cutTo 90 = .ok (.ireturn, 1) := dec_172 (gB drcX5_cutTo_1 26 rfl rfl)
def lkcX5_turn_0 : List UInt8 := [0x2a, 0x1b, 0xb6, 0x00, 0x25, 0x4d, 0x2a, 0xb4, 0x00, 0x1d, 0x2c, 0xb6, 0x00, 0x65, 0x2a, 0x2c, 0x2a, 0xb4, 0x00, 0x1d, 0xb6, 0x00, 0x68, 0xac]
def tkcX5_turn_0 : List UInt8 := lkcX5_turn_0 ++ []
theorem drcX5_turn_0 : (cX5_turn).data.toList.drop 0 = lkcX5_turn_0 ++ [] := by decide +kernel
theorem dX5_turn_0 : decode cX5_turn 0 = .ok (.aload_n 0, 1) := dec_42 (gB drcX5_turn_0 0 rfl rfl)
theorem dX5_turn_1 : decode cX5_turn 1 = .ok (.iload_n 1, 1) := dec_27 (gB drcX5_turn_0 1 rfl rfl)
theorem dX5_turn_2 : decode cX5_turn 2 = .ok (.invokevirtual 37, 3) := e_182 (x := 0) (y := 37) drcX5_turn_0 2 rfl rfl
theorem dX5_turn_5 : decode cX5_turn 5 = .ok (.astore_n 2, 1) := dec_77 (gB drcX5_turn_0 5 rfl rfl)
theorem dX5_turn_6 : decode cX5_turn 6 = .ok (.aload_n 0, 1) := dec_42 (gB drcX5_turn_0 6 rfl rfl)
theorem dX5_turn_7 : decode cX5_turn 7 = .ok (.getfield 29, 3) := e_180 (x := 0) (y := 29) drcX5_turn_0 7 rfl rfl
theorem dX5_turn_10 : decode cX5_turn 10 = .ok (.aload_n 2, 1) := dec_44 (gB drcX5_turn_0 10 rfl rfl)
theorem dX5_turn_11 : decode cX5_turn 11 = .ok (.invokevirtual 101, 3) := e_182 (x := 0) (y := 101) drcX5_turn_0 11 rfl rfl
theorem dX5_turn_14 : decode cX5_turn 14 = .ok (.aload_n 0, 1) := dec_42 (gB drcX5_turn_0 14 rfl rfl)
theorem dX5_turn_15 : decode cX5_turn 15 = .ok (.aload_n 2, 1) := dec_44 (gB drcX5_turn_0 15 rfl rfl)
theorem dX5_turn_16 : decode cX5_turn 16 = .ok (.aload_n 0, 1) := dec_42 (gB drcX5_turn_0 16 rfl rfl)
theorem dX5_turn_17 : decode cX5_turn 17 = .ok (.getfield 29, 3) := e_180 (x := 0) (y := 29) drcX5_turn_0 17 rfl rfl
theorem dX5_turn_20 : decode cX5_turn 20 = .ok (.invokevirtual 104, 3) := e_182 (x := 0) (y := 104) drcX5_turn_0 20 rfl rfl
theorem dX5_turn_23 : decode cX5_turn 23 = .ok (.ireturn, 1) := dec_172 (gB drcX5_turn_0 23 rfl rfl)
def lkcX5_exchange_0 : List UInt8 := [0x2a, 0x1b, 0xb6, 0x00, 0x25, 0x4d, 0x03, 0x3e, 0x1d, 0x2c, 0xb4, 0x00, 0x32, 0xa2, 0x00, 0x1b, 0x2c, 0x1d, 0x2c, 0x1d, 0xb6, 0x00, 0x47, 0x9a, 0x00, 0x07, 0x04, 0xa7, 0x00, 0x04, 0x03, 0xb6, 0x00, 0x4b, 0x84, 0x03, 0x01, 0xa7, 0xff, 0xe3, 0x2a, 0x2c, 0xb8, 0x00, 0x6c, 0xb6, 0x00, 0x36, 0xac]
def tkcX5_exchange_0 : List UInt8 := lkcX5_exchange_0 ++ []
theorem drcX5_exchange_0 : (cX5_exchange).data.toList.drop 0 = lkcX5_exchange_0 ++ [] := by decide +kernel
theorem dX5_exchange_0 : decode cX5_exchange 0 = .ok (.aload_n 0, 1) := dec_42 (gB drcX5_exchange_0 0 rfl rfl)
theorem dX5_exchange_1 : decode cX5_exchange 1 = .ok (.iload_n 1, 1) := dec_27 (gB drcX5_exchange_0 1 rfl rfl)
theorem dX5_exchange_2 : decode cX5_exchange 2 = .ok (.invokevirtual 37, 3) := e_182 (x := 0) (y := 37) drcX5_exchange_0 2 rfl rfl
theorem dX5_exchange_5 : decode cX5_exchange 5 = .ok (.astore_n 2, 1) := dec_77 (gB drcX5_exchange_0 5 rfl rfl)
theorem dX5_exchange_6 : decode cX5_exchange 6 = .ok (.iconst 0, 1) := dec_3 (gB drcX5_exchange_0 6 rfl rfl)
theorem dX5_exchange_7 : decode cX5_exchange 7 = .ok (.istore_n 3, 1) := dec_62 (gB drcX5_exchange_0 7 rfl rfl)
theorem dX5_exchange_8 : decode cX5_exchange 8 = .ok (.iload_n 3, 1) := dec_29 (gB drcX5_exchange_0 8 rfl rfl)
theorem dX5_exchange_9 : decode cX5_exchange 9 = .ok (.aload_n 2, 1) := dec_44 (gB drcX5_exchange_0 9 rfl rfl)
theorem dX5_exchange_10 : decode cX5_exchange 10 = .ok (.getfield 50, 3) := e_180 (x := 0) (y := 50) drcX5_exchange_0 10 rfl rfl
theorem dX5_exchange_13 : decode cX5_exchange 13 = .ok (.if_icmp .ge 27, 3) := e_162 (x := 0) (y := 27) drcX5_exchange_0 13 rfl rfl
theorem dX5_exchange_16 : decode cX5_exchange 16 = .ok (.aload_n 2, 1) := dec_44 (gB drcX5_exchange_0 16 rfl rfl)
theorem dX5_exchange_17 : decode cX5_exchange 17 = .ok (.iload_n 3, 1) := dec_29 (gB drcX5_exchange_0 17 rfl rfl)
theorem dX5_exchange_18 : decode cX5_exchange 18 = .ok (.aload_n 2, 1) := dec_44 (gB drcX5_exchange_0 18 rfl rfl)
theorem dX5_exchange_19 : decode cX5_exchange 19 = .ok (.iload_n 3, 1) := dec_29 (gB drcX5_exchange_0 19 rfl rfl)
theorem dX5_exchange_20 : decode cX5_exchange 20 = .ok (.invokevirtual 71, 3) := e_182 (x := 0) (y := 71) drcX5_exchange_0 20 rfl rfl
theorem dX5_exchange_23 : decode cX5_exchange 23 = .ok (.ifCond .ne 7, 3) := e_154 (x := 0) (y := 7) drcX5_exchange_0 23 rfl rfl
theorem dX5_exchange_26 : decode cX5_exchange 26 = .ok (.iconst 1, 1) := dec_4 (gB drcX5_exchange_0 26 rfl rfl)
theorem dX5_exchange_27 : decode cX5_exchange 27 = .ok (.goto 4, 3) := e_167 (x := 0) (y := 4) drcX5_exchange_0 27 rfl rfl
theorem dX5_exchange_30 : decode cX5_exchange 30 = .ok (.iconst 0, 1) := dec_3 (gB drcX5_exchange_0 30 rfl rfl)
theorem dX5_exchange_31 : decode cX5_exchange 31 = .ok (.invokevirtual 75, 3) := e_182 (x := 0) (y := 75) drcX5_exchange_0 31 rfl rfl
theorem dX5_exchange_34 : decode cX5_exchange 34 = .ok (.iinc 3 1, 3) := e_132 (x := 3) (y := 1) drcX5_exchange_0 34 rfl rfl
theorem dX5_exchange_37 : decode cX5_exchange 37 = .ok (.goto (-29), 3) := e_167 (x := 255) (y := 227) drcX5_exchange_0 37 rfl rfl
theorem dX5_exchange_40 : decode cX5_exchange 40 = .ok (.aload_n 0, 1) := dec_42 (gB drcX5_exchange_0 40 rfl rfl)
theorem dX5_exchange_41 : decode cX5_exchange 41 = .ok (.aload_n 2, 1) := dec_44 (gB drcX5_exchange_0 41 rfl rfl)
theorem dX5_exchange_42 : decode cX5_exchange 42 = .ok (.invokestatic 108, 3) := e_184 (x := 0) (y := 108) drcX5_exchange_0 42 rfl rfl
theorem dX5_exchange_45 : decode cX5_exchange 45 = .ok (.invokevirtual 54, 3) := e_182 (x := 0) (y := 54) drcX5_exchange_0 45 rfl rfl
theorem dX5_exchange_48 : decode cX5_exchange 48 = .ok (.ireturn, 1) := dec_172 (gB drcX5_exchange_0 48 rfl rfl)
def lkcX5_rotate_0 : List UInt8 := [0x2a, 0x1b, 0xb6, 0x00, 0x25, 0x4e, 0x1c, 0x9b, 0x00, 0x0f, 0x1c, 0x2d, 0xb4, 0x00, 0x32, 0xa3, 0x00, 0x07, 0x04, 0xa7, 0x00, 0x04, 0x03, 0xb8, 0x00, 0x2a, 0x2a, 0xb4, 0x00, 0x1d, 0xb6, 0x00, 0x41, 0x2a, 0xb4, 0x00, 0x1d, 0x2d, 0x1c, 0x2d, 0xb4, 0x00, 0x32, 0xb6, 0x00, 0x5d, 0x2a, 0xb4, 0x00, 0x1d, 0x2d, 0x03, 0x1c, 0xb6, 0x00, 0x5d, 0x2a, 0x2d, 0x2a, 0xb4, 0x00, 0x1d, 0xb6, 0x00]
def lkcX5_rotate_1 : List UInt8 := [0x68, 0xac]
def tkcX5_rotate_1 : List UInt8 := lkcX5_rotate_1 ++ []
def tkcX5_rotate_0 : List UInt8 := lkcX5_rotate_0 ++ tkcX5_rotate_1
theorem drcX5_rotate_0 : (cX5_rotate).data.toList.drop 0 = lkcX5_rotate_0 ++ tkcX5_rotate_1 := by decide +kernel
theorem drcX5_rotate_1 : (cX5_rotate).data.toList.drop 64 = lkcX5_rotate_1 ++ [] := dr_step drcX5_rotate_0 rfl
theorem dX5_rotate_0 : decode cX5_rotate 0 = .ok (.aload_n 0, 1) := dec_42 (gB drcX5_rotate_0 0 rfl rfl)
theorem dX5_rotate_1 : decode cX5_rotate 1 = .ok (.iload_n 1, 1) := dec_27 (gB drcX5_rotate_0 1 rfl rfl)
theorem dX5_rotate_2 : decode cX5_rotate 2 = .ok (.invokevirtual 37, 3) := e_182 (x := 0) (y := 37) drcX5_rotate_0 2 rfl rfl
theorem dX5_rotate_5 : decode cX5_rotate 5 = .ok (.astore_n 3, 1) := dec_78 (gB drcX5_rotate_0 5 rfl rfl)
theorem dX5_rotate_6 : decode cX5_rotate 6 = .ok (.iload_n 2, 1) := dec_28 (gB drcX5_rotate_0 6 rfl rfl)
theorem dX5_rotate_7 : decode cX5_rotate 7 = .ok (.ifCond .lt 15, 3) := e_155 (x := 0) (y := 15) drcX5_rotate_0 7 rfl rfl
theorem dX5_rotate_10 : decode cX5_rotate 10 = .ok (.iload_n 2, 1) := dec_28 (gB drcX5_rotate_0 10 rfl rfl)
theorem dX5_rotate_11 : decode cX5_rotate 11 = .ok (.aload_n 3, 1) := dec_45 (gB drcX5_rotate_0 11 rfl rfl)
theorem dX5_rotate_12 : decode cX5_rotate 12 = .ok (.getfield 50, 3) := e_180 (x := 0) (y := 50) drcX5_rotate_0 12 rfl rfl
theorem dX5_rotate_15 : decode cX5_rotate 15 = .ok (.if_icmp .gt 7, 3) := e_163 (x := 0) (y := 7) drcX5_rotate_0 15 rfl rfl
theorem dX5_rotate_18 : decode cX5_rotate 18 = .ok (.iconst 1, 1) := dec_4 (gB drcX5_rotate_0 18 rfl rfl)
theorem dX5_rotate_19 : decode cX5_rotate 19 = .ok (.goto 4, 3) := e_167 (x := 0) (y := 4) drcX5_rotate_0 19 rfl rfl
theorem dX5_rotate_22 : decode cX5_rotate 22 = .ok (.iconst 0, 1) := dec_3 (gB drcX5_rotate_0 22 rfl rfl)
theorem dX5_rotate_23 : decode cX5_rotate 23 = .ok (.invokestatic 42, 3) := e_184 (x := 0) (y := 42) drcX5_rotate_0 23 rfl rfl
theorem dX5_rotate_26 : decode cX5_rotate 26 = .ok (.aload_n 0, 1) := dec_42 (gB drcX5_rotate_0 26 rfl rfl)
theorem dX5_rotate_27 : decode cX5_rotate 27 = .ok (.getfield 29, 3) := e_180 (x := 0) (y := 29) drcX5_rotate_0 27 rfl rfl
theorem dX5_rotate_30 : decode cX5_rotate 30 = .ok (.invokevirtual 65, 3) := e_182 (x := 0) (y := 65) drcX5_rotate_0 30 rfl rfl
theorem dX5_rotate_33 : decode cX5_rotate 33 = .ok (.aload_n 0, 1) := dec_42 (gB drcX5_rotate_0 33 rfl rfl)
theorem dX5_rotate_34 : decode cX5_rotate 34 = .ok (.getfield 29, 3) := e_180 (x := 0) (y := 29) drcX5_rotate_0 34 rfl rfl
theorem dX5_rotate_37 : decode cX5_rotate 37 = .ok (.aload_n 3, 1) := dec_45 (gB drcX5_rotate_0 37 rfl rfl)
theorem dX5_rotate_38 : decode cX5_rotate 38 = .ok (.iload_n 2, 1) := dec_28 (gB drcX5_rotate_0 38 rfl rfl)
theorem dX5_rotate_39 : decode cX5_rotate 39 = .ok (.aload_n 3, 1) := dec_45 (gB drcX5_rotate_0 39 rfl rfl)
theorem dX5_rotate_40 : decode cX5_rotate 40 = .ok (.getfield 50, 3) := e_180 (x := 0) (y := 50) drcX5_rotate_0 40 rfl rfl
theorem dX5_rotate_43 : decode cX5_rotate 43 = .ok (.invokevirtual 93, 3) := e_182 (x := 0) (y := 93) drcX5_rotate_0 43 rfl rfl
theorem dX5_rotate_46 : decode cX5_rotate 46 = .ok (.aload_n 0, 1) := dec_42 (gB drcX5_rotate_0 46 rfl rfl)
theorem dX5_rotate_47 : decode cX5_rotate 47 = .ok (.getfield 29, 3) := e_180 (x := 0) (y := 29) drcX5_rotate_0 47 rfl rfl
theorem dX5_rotate_50 : decode cX5_rotate 50 = .ok (.aload_n 3, 1) := dec_45 (gB drcX5_rotate_0 50 rfl rfl)
theorem dX5_rotate_51 : decode cX5_rotate 51 = .ok (.iconst 0, 1) := dec_3 (gB drcX5_rotate_0 51 rfl rfl)
theorem dX5_rotate_52 : decode cX5_rotate 52 = .ok (.iload_n 2, 1) := dec_28 (gB drcX5_rotate_0 52 rfl rfl)
theorem dX5_rotate_53 : decode cX5_rotate 53 = .ok (.invokevirtual 93, 3) := e_182 (x := 0) (y := 93) drcX5_rotate_0 53 rfl rfl
theorem dX5_rotate_56 : decode cX5_rotate 56 = .ok (.aload_n 0, 1) := dec_42 (gB drcX5_rotate_0 56 rfl rfl)
theorem dX5_rotate_57 : decode cX5_rotate 57 = .ok (.aload_n 3, 1) := dec_45 (gB drcX5_rotate_0 57 rfl rfl)
theorem dX5_rotate_58 : decode cX5_rotate 58 = .ok (.aload_n 0, 1) := dec_42 (gB drcX5_rotate_0 58 rfl rfl)
theorem dX5_rotate_59 : decode cX5_rotate 59 = .ok (.getfield 29, 3) := e_180 (x := 0) (y := 29) drcX5_rotate_0 59 rfl rfl
theorem dX5_rotate_62 : decode cX5_rotate 62 = .ok (.invokevirtual 104, 3) := dec_182 (a := 0) (b := 104) (gB drcX5_rotate_0 62 rfl rfl) (gB drcX5_rotate_0 63 rfl rfl) (gB drcX5_rotate_1 0 rfl rfl)
theorem dX5_rotate_65 : decode cX5_rotate 65 = .ok (.ireturn, 1) := dec_172 (gB drcX5_rotate_1 1 rfl rfl)
def lkcX5_copy_0 : List UInt8 := [0x2a, 0x1b, 0xb6, 0x00, 0x25, 0x4e, 0x2a, 0x2a, 0x1c, 0xb6, 0x00, 0x25, 0x2d, 0xb6, 0x00, 0x68, 0xac]
def tkcX5_copy_0 : List UInt8 := lkcX5_copy_0 ++ []
theorem drcX5_copy_0 : (cX5_copy).data.toList.drop 0 = lkcX5_copy_0 ++ [] := by decide +kernel
theorem dX5_copy_0 : decode cX5_copy 0 = .ok (.aload_n 0, 1) := dec_42 (gB drcX5_copy_0 0 rfl rfl)
theorem dX5_copy_1 : decode cX5_copy 1 = .ok (.iload_n 1, 1) := dec_27 (gB drcX5_copy_0 1 rfl rfl)
theorem dX5_copy_2 : decode cX5_copy 2 = .ok (.invokevirtual 37, 3) := e_182 (x := 0) (y := 37) drcX5_copy_0 2 rfl rfl
theorem dX5_copy_5 : decode cX5_copy 5 = .ok (.astore_n 3, 1) := dec_78 (gB drcX5_copy_0 5 rfl rfl)
theorem dX5_copy_6 : decode cX5_copy 6 = .ok (.aload_n 0, 1) := dec_42 (gB drcX5_copy_0 6 rfl rfl)
theorem dX5_copy_7 : decode cX5_copy 7 = .ok (.aload_n 0, 1) := dec_42 (gB drcX5_copy_0 7 rfl rfl)
theorem dX5_copy_8 : decode cX5_copy 8 = .ok (.iload_n 2, 1) := dec_28 (gB drcX5_copy_0 8 rfl rfl)
theorem dX5_copy_9 : decode cX5_copy 9 = .ok (.invokevirtual 37, 3) := e_182 (x := 0) (y := 37) drcX5_copy_0 9 rfl rfl
theorem dX5_copy_12 : decode cX5_copy 12 = .ok (.aload_n 3, 1) := dec_45 (gB drcX5_copy_0 12 rfl rfl)
theorem dX5_copy_13 : decode cX5_copy 13 = .ok (.invokevirtual 104, 3) := e_182 (x := 0) (y := 104) drcX5_copy_0 13 rfl rfl
theorem dX5_copy_16 : decode cX5_copy 16 = .ok (.ireturn, 1) := dec_172 (gB drcX5_copy_0 16 rfl rfl)
def lkcX5_apply_0 : List UInt8 := [0x2a, 0x1b, 0xb6, 0x00, 0x25, 0x3a, 0x04, 0x2a, 0x1c, 0x1d, 0xb6, 0x00, 0x72, 0x2a, 0xb4, 0x00, 0x18, 0x19, 0x04, 0xb6, 0x00, 0x76, 0x10, 0x40, 0xa4, 0x00, 0x08, 0x2a, 0xb6, 0x00, 0x79, 0xac, 0x2a, 0xb4, 0x00, 0x18, 0x19, 0x04, 0x2a, 0xb4, 0x00, 0x1d, 0xb6, 0x00, 0x7d, 0x19, 0x04, 0x2a, 0xb4, 0x00, 0x1d, 0xb6, 0x00, 0x61, 0x2a, 0x19, 0x04, 0xb4, 0x00, 0x32, 0xb6, 0x00, 0x36, 0xac]
def tkcX5_apply_0 : List UInt8 := lkcX5_apply_0 ++ []
theorem drcX5_apply_0 : (cX5_apply).data.toList.drop 0 = lkcX5_apply_0 ++ [] := by decide +kernel
theorem dX5_apply_0 : decode cX5_apply 0 = .ok (.aload_n 0, 1) := dec_42 (gB drcX5_apply_0 0 rfl rfl)
theorem dX5_apply_1 : decode cX5_apply 1 = .ok (.iload_n 1, 1) := dec_27 (gB drcX5_apply_0 1 rfl rfl)
theorem dX5_apply_2 : decode cX5_apply 2 = .ok (.invokevirtual 37, 3) := e_182 (x := 0) (y := 37) drcX5_apply_0 2 rfl rfl
theorem dX5_apply_5 : decode cX5_apply 5 = .ok (.astore 4, 2) := e_58 (x := 4) drcX5_apply_0 5 rfl rfl
theorem dX5_apply_7 : decode cX5_apply 7 = .ok (.aload_n 0, 1) := dec_42 (gB drcX5_apply_0 7 rfl rfl)
theorem dX5_apply_8 : decode cX5_apply 8 = .ok (.iload_n 2, 1) := dec_28 (gB drcX5_apply_0 8 rfl rfl)
theorem dX5_apply_9 : decode cX5_apply 9 = .ok (.iload_n 3, 1) := dec_29 (gB drcX5_apply_0 9 rfl rfl)
theorem dX5_apply_10 : decode cX5_apply 10 = .ok (.invokevirtual 114, 3) := e_182 (x := 0) (y := 114) drcX5_apply_0 10 rfl rfl
theorem dX5_apply_13 : decode cX5_apply 13 = .ok (.aload_n 0, 1) := dec_42 (gB drcX5_apply_0 13 rfl rfl)
theorem dX5_apply_14 : decode cX5_apply 14 = .ok (.getfield 24, 3) := e_180 (x := 0) (y := 24) drcX5_apply_0 14 rfl rfl
theorem dX5_apply_17 : decode cX5_apply 17 = .ok (.aload 4, 2) := e_25 (x := 4) drcX5_apply_0 17 rfl rfl
theorem dX5_apply_19 : decode cX5_apply 19 = .ok (.invokevirtual 118, 3) := e_182 (x := 0) (y := 118) drcX5_apply_0 19 rfl rfl
theorem dX5_apply_22 : decode cX5_apply 22 = .ok (.bipush 64, 2) := e_16 (x := 64) drcX5_apply_0 22 rfl rfl
theorem dX5_apply_24 : decode cX5_apply 24 = .ok (.if_icmp .le 8, 3) := e_164 (x := 0) (y := 8) drcX5_apply_0 24 rfl rfl
theorem dX5_apply_27 : decode cX5_apply 27 = .ok (.aload_n 0, 1) := dec_42 (gB drcX5_apply_0 27 rfl rfl)
theorem dX5_apply_28 : decode cX5_apply 28 = .ok (.invokevirtual 121, 3) := e_182 (x := 0) (y := 121) drcX5_apply_0 28 rfl rfl
theorem dX5_apply_31 : decode cX5_apply 31 = .ok (.ireturn, 1) := dec_172 (gB drcX5_apply_0 31 rfl rfl)
theorem dX5_apply_32 : decode cX5_apply 32 = .ok (.aload_n 0, 1) := dec_42 (gB drcX5_apply_0 32 rfl rfl)
theorem dX5_apply_33 : decode cX5_apply 33 = .ok (.getfield 24, 3) := e_180 (x := 0) (y := 24) drcX5_apply_0 33 rfl rfl
theorem dX5_apply_36 : decode cX5_apply 36 = .ok (.aload 4, 2) := e_25 (x := 4) drcX5_apply_0 36 rfl rfl
theorem dX5_apply_38 : decode cX5_apply 38 = .ok (.aload_n 0, 1) := dec_42 (gB drcX5_apply_0 38 rfl rfl)
theorem dX5_apply_39 : decode cX5_apply 39 = .ok (.getfield 29, 3) := e_180 (x := 0) (y := 29) drcX5_apply_0 39 rfl rfl
theorem dX5_apply_42 : decode cX5_apply 42 = .ok (.invokevirtual 125, 3) := e_182 (x := 0) (y := 125) drcX5_apply_0 42 rfl rfl
theorem dX5_apply_45 : decode cX5_apply 45 = .ok (.aload 4, 2) := e_25 (x := 4) drcX5_apply_0 45 rfl rfl
theorem dX5_apply_47 : decode cX5_apply 47 = .ok (.aload_n 0, 1) := dec_42 (gB drcX5_apply_0 47 rfl rfl)
theorem dX5_apply_48 : decode cX5_apply 48 = .ok (.getfield 29, 3) := e_180 (x := 0) (y := 29) drcX5_apply_0 48 rfl rfl
theorem dX5_apply_51 : decode cX5_apply 51 = .ok (.invokevirtual 97, 3) := e_182 (x := 0) (y := 97) drcX5_apply_0 51 rfl rfl
theorem dX5_apply_54 : decode cX5_apply 54 = .ok (.aload_n 0, 1) := dec_42 (gB drcX5_apply_0 54 rfl rfl)
theorem dX5_apply_55 : decode cX5_apply 55 = .ok (.aload 4, 2) := e_25 (x := 4) drcX5_apply_0 55 rfl rfl
theorem dX5_apply_57 : decode cX5_apply 57 = .ok (.getfield 50, 3) := e_180 (x := 0) (y := 50) drcX5_apply_0 57 rfl rfl
theorem dX5_apply_60 : decode cX5_apply 60 = .ok (.invokevirtual 54, 3) := e_182 (x := 0) (y := 54) drcX5_apply_0 60 rfl rfl
theorem dX5_apply_63 : decode cX5_apply 63 = .ok (.ireturn, 1) := dec_172 (gB drcX5_apply_0 63 rfl rfl)
def lkcX5_undo_0 : List UInt8 := [0x2a, 0x1b, 0xb6, 0x00, 0x25, 0x3a, 0x04, 0x2a, 0x1c, 0x1d, 0xb6, 0x00, 0x72, 0x2a, 0xb4, 0x00, 0x18, 0xb6, 0x00, 0x81, 0xb8, 0x00, 0x85, 0x2a, 0xb4, 0x00, 0x18, 0x19, 0x04, 0x2a, 0xb4, 0x00, 0x1d, 0xb6, 0x00, 0x88, 0x9a, 0x00, 0x08, 0x2a, 0xb6, 0x00, 0x79, 0xac, 0x19, 0x04, 0x2a, 0xb4, 0x00, 0x1d, 0xb6, 0x00, 0x61, 0x2a, 0x19, 0x04, 0xb4, 0x00, 0x32, 0xb6, 0x00, 0x36, 0xac]
def tkcX5_undo_0 : List UInt8 := lkcX5_undo_0 ++ []
theorem drcX5_undo_0 : (cX5_undo).data.toList.drop 0 = lkcX5_undo_0 ++ [] := by decide +kernel
theorem dX5_undo_0 : decode cX5_undo 0 = .ok (.aload_n 0, 1) := dec_42 (gB drcX5_undo_0 0 rfl rfl)
theorem dX5_undo_1 : decode cX5_undo 1 = .ok (.iload_n 1, 1) := dec_27 (gB drcX5_undo_0 1 rfl rfl)
theorem dX5_undo_2 : decode cX5_undo 2 = .ok (.invokevirtual 37, 3) := e_182 (x := 0) (y := 37) drcX5_undo_0 2 rfl rfl
theorem dX5_undo_5 : decode cX5_undo 5 = .ok (.astore 4, 2) := e_58 (x := 4) drcX5_undo_0 5 rfl rfl
theorem dX5_undo_7 : decode cX5_undo 7 = .ok (.aload_n 0, 1) := dec_42 (gB drcX5_undo_0 7 rfl rfl)
theorem dX5_undo_8 : decode cX5_undo 8 = .ok (.iload_n 2, 1) := dec_28 (gB drcX5_undo_0 8 rfl rfl)
theorem dX5_undo_9 : decode cX5_undo 9 = .ok (.iload_n 3, 1) := dec_29 (gB drcX5_undo_0 9 rfl rfl)
theorem dX5_undo_10 : decode cX5_undo 10 = .ok (.invokevirtual 114, 3) := e_182 (x := 0) (y := 114) drcX5_undo_0 10 rfl rfl
theorem dX5_undo_13 : decode cX5_undo 13 = .ok (.aload_n 0, 1) := dec_42 (gB drcX5_undo_0 13 rfl rfl)
theorem dX5_undo_14 : decode cX5_undo 14 = .ok (.getfield 24, 3) := e_180 (x := 0) (y := 24) drcX5_undo_0 14 rfl rfl
theorem dX5_undo_17 : decode cX5_undo 17 = .ok (.invokevirtual 129, 3) := e_182 (x := 0) (y := 129) drcX5_undo_0 17 rfl rfl
theorem dX5_undo_20 : decode cX5_undo 20 = .ok (.invokestatic 133, 3) := e_184 (x := 0) (y := 133) drcX5_undo_0 20 rfl rfl
theorem dX5_undo_23 : decode cX5_undo 23 = .ok (.aload_n 0, 1) := dec_42 (gB drcX5_undo_0 23 rfl rfl)
theorem dX5_undo_24 : decode cX5_undo 24 = .ok (.getfield 24, 3) := e_180 (x := 0) (y := 24) drcX5_undo_0 24 rfl rfl
theorem dX5_undo_27 : decode cX5_undo 27 = .ok (.aload 4, 2) := e_25 (x := 4) drcX5_undo_0 27 rfl rfl
theorem dX5_undo_29 : decode cX5_undo 29 = .ok (.aload_n 0, 1) := dec_42 (gB drcX5_undo_0 29 rfl rfl)
theorem dX5_undo_30 : decode cX5_undo 30 = .ok (.getfield 29, 3) := e_180 (x := 0) (y := 29) drcX5_undo_0 30 rfl rfl
theorem dX5_undo_33 : decode cX5_undo 33 = .ok (.invokevirtual 136, 3) := e_182 (x := 0) (y := 136) drcX5_undo_0 33 rfl rfl
theorem dX5_undo_36 : decode cX5_undo 36 = .ok (.ifCond .ne 8, 3) := e_154 (x := 0) (y := 8) drcX5_undo_0 36 rfl rfl
theorem dX5_undo_39 : decode cX5_undo 39 = .ok (.aload_n 0, 1) := dec_42 (gB drcX5_undo_0 39 rfl rfl)
theorem dX5_undo_40 : decode cX5_undo 40 = .ok (.invokevirtual 121, 3) := e_182 (x := 0) (y := 121) drcX5_undo_0 40 rfl rfl
theorem dX5_undo_43 : decode cX5_undo 43 = .ok (.ireturn, 1) := dec_172 (gB drcX5_undo_0 43 rfl rfl)
theorem dX5_undo_44 : decode cX5_undo 44 = .ok (.aload 4, 2) := e_25 (x := 4) drcX5_undo_0 44 rfl rfl
theorem dX5_undo_46 : decode cX5_undo 46 = .ok (.aload_n 0, 1) := dec_42 (gB drcX5_undo_0 46 rfl rfl)
theorem dX5_undo_47 : decode cX5_undo 47 = .ok (.getfield 29, 3) := e_180 (x := 0) (y := 29) drcX5_undo_0 47 rfl rfl
theorem dX5_undo_50 : decode cX5_undo 50 = .ok (.invokevirtual 97, 3) := e_182 (x := 0) (y := 97) drcX5_undo_0 50 rfl rfl
theorem dX5_undo_53 : decode cX5_undo 53 = .ok (.aload_n 0, 1) := dec_42 (gB drcX5_undo_0 53 rfl rfl)
theorem dX5_undo_54 : decode cX5_undo 54 = .ok (.aload 4, 2) := e_25 (x := 4) drcX5_undo_0 54 rfl rfl
theorem dX5_undo_56 : decode cX5_undo 56 = .ok (.getfield 50, 3) := e_180 (x := 0) (y := 50) drcX5_undo_0 56 rfl rfl
theorem dX5_undo_59 : decode cX5_undo 59 = .ok (.invokevirtual 54, 3) := e_182 (x := 0) (y := 54) drcX5_undo_0 59 rfl rfl
theorem dX5_undo_62 : decode cX5_undo 62 = .ok (.ireturn, 1) := dec_172 (gB drcX5_undo_0 62 rfl rfl)
def lkcX5_lay_0 : List UInt8 := [0x2a, 0x1b, 0xb6, 0x00, 0x8c, 0x3a, 0x04, 0x2a, 0x1c, 0xb6, 0x00, 0x25, 0x3a, 0x05, 0x1d, 0x9b, 0x00, 0x0c, 0x1d, 0x05, 0xa3, 0x00, 0x07, 0x04, 0xa7, 0x00, 0x04, 0x03, 0xb8, 0x00, 0x2a, 0x1d, 0x9a, 0x00, 0x10, 0x19, 0x05, 0x19, 0x04, 0xb4, 0x00, 0x90, 0xb6, 0x00, 0x61, 0xa7, 0x00, 0x21, 0x1d, 0x04, 0xa0, 0x00, 0x15, 0x19, 0x04, 0x19, 0x05, 0x2a, 0xb4, 0x00, 0x1d, 0x2a, 0xb4, 0x00]
def lkcX5_lay_1 : List UInt8 := [0x18, 0xb6, 0x00, 0x93, 0xa7, 0x00, 0x0a, 0x19, 0x04, 0x19, 0x05, 0xb6, 0x00, 0x97, 0x2a, 0x19, 0x05, 0xb4, 0x00, 0x32, 0xb6, 0x00, 0x36, 0xac]
def tkcX5_lay_1 : List UInt8 := lkcX5_lay_1 ++ []
def tkcX5_lay_0 : List UInt8 := lkcX5_lay_0 ++ tkcX5_lay_1
theorem drcX5_lay_0 : (cX5_lay).data.toList.drop 0 = lkcX5_lay_0 ++ tkcX5_lay_1 := by decide +kernel
theorem drcX5_lay_1 : (cX5_lay).data.toList.drop 64 = lkcX5_lay_1 ++ [] := dr_step drcX5_lay_0 rfl
theorem dX5_lay_0 : decode cX5_lay 0 = .ok (.aload_n 0, 1) := dec_42 (gB drcX5_lay_0 0 rfl rfl)
theorem dX5_lay_1 : decode cX5_lay 1 = .ok (.iload_n 1, 1) := dec_27 (gB drcX5_lay_0 1 rfl rfl)
theorem dX5_lay_2 : decode cX5_lay 2 = .ok (.invokevirtual 140, 3) := e_182 (x := 0) (y := 140) drcX5_lay_0 2 rfl rfl
theorem dX5_lay_5 : decode cX5_lay 5 = .ok (.astore 4, 2) := e_58 (x := 4) drcX5_lay_0 5 rfl rfl
theorem dX5_lay_7 : decode cX5_lay 7 = .ok (.aload_n 0, 1) := dec_42 (gB drcX5_lay_0 7 rfl rfl)
theorem dX5_lay_8 : decode cX5_lay 8 = .ok (.iload_n 2, 1) := dec_28 (gB drcX5_lay_0 8 rfl rfl)
theorem dX5_lay_9 : decode cX5_lay 9 = .ok (.invokevirtual 37, 3) := e_182 (x := 0) (y := 37) drcX5_lay_0 9 rfl rfl
theorem dX5_lay_12 : decode cX5_lay 12 = .ok (.astore 5, 2) := e_58 (x := 5) drcX5_lay_0 12 rfl rfl
theorem dX5_lay_14 : decode cX5_lay 14 = .ok (.iload_n 3, 1) := dec_29 (gB drcX5_lay_0 14 rfl rfl)
theorem dX5_lay_15 : decode cX5_lay 15 = .ok (.ifCond .lt 12, 3) := e_155 (x := 0) (y := 12) drcX5_lay_0 15 rfl rfl
theorem dX5_lay_18 : decode cX5_lay 18 = .ok (.iload_n 3, 1) := dec_29 (gB drcX5_lay_0 18 rfl rfl)
theorem dX5_lay_19 : decode cX5_lay 19 = .ok (.iconst 2, 1) := dec_5 (gB drcX5_lay_0 19 rfl rfl)
theorem dX5_lay_20 : decode cX5_lay 20 = .ok (.if_icmp .gt 7, 3) := e_163 (x := 0) (y := 7) drcX5_lay_0 20 rfl rfl
theorem dX5_lay_23 : decode cX5_lay 23 = .ok (.iconst 1, 1) := dec_4 (gB drcX5_lay_0 23 rfl rfl)
theorem dX5_lay_24 : decode cX5_lay 24 = .ok (.goto 4, 3) := e_167 (x := 0) (y := 4) drcX5_lay_0 24 rfl rfl
theorem dX5_lay_27 : decode cX5_lay 27 = .ok (.iconst 0, 1) := dec_3 (gB drcX5_lay_0 27 rfl rfl)
theorem dX5_lay_28 : decode cX5_lay 28 = .ok (.invokestatic 42, 3) := e_184 (x := 0) (y := 42) drcX5_lay_0 28 rfl rfl
theorem dX5_lay_31 : decode cX5_lay 31 = .ok (.iload_n 3, 1) := dec_29 (gB drcX5_lay_0 31 rfl rfl)
theorem dX5_lay_32 : decode cX5_lay 32 = .ok (.ifCond .ne 16, 3) := e_154 (x := 0) (y := 16) drcX5_lay_0 32 rfl rfl
theorem dX5_lay_35 : decode cX5_lay 35 = .ok (.aload 5, 2) := e_25 (x := 5) drcX5_lay_0 35 rfl rfl
theorem dX5_lay_37 : decode cX5_lay 37 = .ok (.aload 4, 2) := e_25 (x := 4) drcX5_lay_0 37 rfl rfl
theorem dX5_lay_39 : decode cX5_lay 39 = .ok (.getfield 144, 3) := e_180 (x := 0) (y := 144) drcX5_lay_0 39 rfl rfl
theorem dX5_lay_42 : decode cX5_lay 42 = .ok (.invokevirtual 97, 3) := e_182 (x := 0) (y := 97) drcX5_lay_0 42 rfl rfl
theorem dX5_lay_45 : decode cX5_lay 45 = .ok (.goto 33, 3) := e_167 (x := 0) (y := 33) drcX5_lay_0 45 rfl rfl
theorem dX5_lay_48 : decode cX5_lay 48 = .ok (.iload_n 3, 1) := dec_29 (gB drcX5_lay_0 48 rfl rfl)
theorem dX5_lay_49 : decode cX5_lay 49 = .ok (.iconst 1, 1) := dec_4 (gB drcX5_lay_0 49 rfl rfl)
theorem dX5_lay_50 : decode cX5_lay 50 = .ok (.if_icmp .ne 21, 3) := e_160 (x := 0) (y := 21) drcX5_lay_0 50 rfl rfl
theorem dX5_lay_53 : decode cX5_lay 53 = .ok (.aload 4, 2) := e_25 (x := 4) drcX5_lay_0 53 rfl rfl
theorem dX5_lay_55 : decode cX5_lay 55 = .ok (.aload 5, 2) := e_25 (x := 5) drcX5_lay_0 55 rfl rfl
theorem dX5_lay_57 : decode cX5_lay 57 = .ok (.aload_n 0, 1) := dec_42 (gB drcX5_lay_0 57 rfl rfl)
theorem dX5_lay_58 : decode cX5_lay 58 = .ok (.getfield 29, 3) := e_180 (x := 0) (y := 29) drcX5_lay_0 58 rfl rfl
theorem dX5_lay_61 : decode cX5_lay 61 = .ok (.aload_n 0, 1) := dec_42 (gB drcX5_lay_0 61 rfl rfl)
theorem dX5_lay_62 : decode cX5_lay 62 = .ok (.getfield 24, 3) := dec_180 (a := 0) (b := 24) (gB drcX5_lay_0 62 rfl rfl) (gB drcX5_lay_0 63 rfl rfl) (gB drcX5_lay_1 0 rfl rfl)
theorem dX5_lay_65 : decode cX5_lay 65 = .ok (.invokevirtual 147, 3) := e_182 (x := 0) (y := 147) drcX5_lay_1 1 rfl rfl
theorem dX5_lay_68 : decode cX5_lay 68 = .ok (.goto 10, 3) := e_167 (x := 0) (y := 10) drcX5_lay_1 4 rfl rfl
theorem dX5_lay_71 : decode cX5_lay 71 = .ok (.aload 4, 2) := e_25 (x := 4) drcX5_lay_1 7 rfl rfl
theorem dX5_lay_73 : decode cX5_lay 73 = .ok (.aload 5, 2) := e_25 (x := 5) drcX5_lay_1 9 rfl rfl
theorem dX5_lay_75 : decode cX5_lay 75 = .ok (.invokevirtual 151, 3) := e_182 (x := 0) (y := 151) drcX5_lay_1 11 rfl rfl
theorem dX5_lay_78 : decode cX5_lay 78 = .ok (.aload_n 0, 1) := dec_42 (gB drcX5_lay_1 14 rfl rfl)
theorem dX5_lay_79 : decode cX5_lay 79 = .ok (.aload 5, 2) := e_25 (x := 5) drcX5_lay_1 15 rfl rfl
theorem dX5_lay_81 : decode cX5_lay 81 = .ok (.getfield 50, 3) := e_180 (x := 0) (y := 50) drcX5_lay_1 17 rfl rfl
theorem dX5_lay_84 : decode cX5_lay 84 = .ok (.invokevirtual 54, 3) := e_182 (x := 0) (y := 54) drcX5_lay_1 20 rfl rfl
theorem dX5_lay_87 : decode cX5_lay 87 = .ok (.ireturn, 1) := dec_172 (gB drcX5_lay_1 23 rfl rfl)
def lkcX5_twos_0 : List UInt8 := [0x2a, 0x1b, 0xb6, 0x00, 0x25, 0x3a, 0x04, 0x1c, 0x9b, 0x00, 0x0d, 0x1c, 0x10, 0x06, 0xa3, 0x00, 0x07, 0x04, 0xa7, 0x00, 0x04, 0x03, 0xb8, 0x00, 0x2a, 0x1d, 0x9b, 0x00, 0x0c, 0x1d, 0x05, 0xa3, 0x00, 0x07, 0x04, 0xa7, 0x00, 0x04, 0x03, 0xb8, 0x00, 0x2a, 0x1d, 0x9a, 0x00, 0x14, 0x1c, 0x19, 0x04, 0x2a, 0xb4, 0x00, 0x1d, 0x2a, 0xb4, 0x00, 0x18, 0xb8, 0x00, 0x9a, 0xa7, 0x00, 0x17, 0x1d]
def lkcX5_twos_1 : List UInt8 := [0x04, 0xa0, 0x00, 0x0c, 0x1c, 0x19, 0x04, 0xb8, 0x00, 0xa0, 0xa7, 0x00, 0x09, 0x1c, 0x19, 0x04, 0xb8, 0x00, 0xa4, 0x2a, 0x19, 0x04, 0xb4, 0x00, 0x32, 0xb6, 0x00, 0x36, 0xac]
def tkcX5_twos_1 : List UInt8 := lkcX5_twos_1 ++ []
def tkcX5_twos_0 : List UInt8 := lkcX5_twos_0 ++ tkcX5_twos_1
theorem drcX5_twos_0 : (cX5_twos).data.toList.drop 0 = lkcX5_twos_0 ++ tkcX5_twos_1 := by decide +kernel
theorem drcX5_twos_1 : (cX5_twos).data.toList.drop 64 = lkcX5_twos_1 ++ [] := dr_step drcX5_twos_0 rfl
theorem dX5_twos_0 : decode cX5_twos 0 = .ok (.aload_n 0, 1) := dec_42 (gB drcX5_twos_0 0 rfl rfl)
theorem dX5_twos_1 : decode cX5_twos 1 = .ok (.iload_n 1, 1) := dec_27 (gB drcX5_twos_0 1 rfl rfl)
theorem dX5_twos_2 : decode cX5_twos 2 = .ok (.invokevirtual 37, 3) := e_182 (x := 0) (y := 37) drcX5_twos_0 2 rfl rfl
theorem dX5_twos_5 : decode cX5_twos 5 = .ok (.astore 4, 2) := e_58 (x := 4) drcX5_twos_0 5 rfl rfl
theorem dX5_twos_7 : decode cX5_twos 7 = .ok (.iload_n 2, 1) := dec_28 (gB drcX5_twos_0 7 rfl rfl)
theorem dX5_twos_8 : decode cX5_twos 8 = .ok (.ifCond .lt 13, 3) := e_155 (x := 0) (y := 13) drcX5_twos_0 8 rfl rfl
theorem dX5_twos_11 : decode cX5_twos 11 = .ok (.iload_n 2, 1) := dec_28 (gB drcX5_twos_0 11 rfl rfl)
theorem dX5_twos_12 : decode cX5_twos 12 = .ok (.bipush 6, 2) := e_16 (x := 6) drcX5_twos_0 12 rfl rfl
theorem dX5_twos_14 : decode cX5_twos 14 = .ok (.if_icmp .gt 7, 3) := e_163 (x := 0) (y := 7) drcX5_twos_0 14 rfl rfl
theorem dX5_twos_17 : decode cX5_twos 17 = .ok (.iconst 1, 1) := dec_4 (gB drcX5_twos_0 17 rfl rfl)
theorem dX5_twos_18 : decode cX5_twos 18 = .ok (.goto 4, 3) := e_167 (x := 0) (y := 4) drcX5_twos_0 18 rfl rfl
theorem dX5_twos_21 : decode cX5_twos 21 = .ok (.iconst 0, 1) := dec_3 (gB drcX5_twos_0 21 rfl rfl)
theorem dX5_twos_22 : decode cX5_twos 22 = .ok (.invokestatic 42, 3) := e_184 (x := 0) (y := 42) drcX5_twos_0 22 rfl rfl
theorem dX5_twos_25 : decode cX5_twos 25 = .ok (.iload_n 3, 1) := dec_29 (gB drcX5_twos_0 25 rfl rfl)
theorem dX5_twos_26 : decode cX5_twos 26 = .ok (.ifCond .lt 12, 3) := e_155 (x := 0) (y := 12) drcX5_twos_0 26 rfl rfl
theorem dX5_twos_29 : decode cX5_twos 29 = .ok (.iload_n 3, 1) := dec_29 (gB drcX5_twos_0 29 rfl rfl)
theorem dX5_twos_30 : decode cX5_twos 30 = .ok (.iconst 2, 1) := dec_5 (gB drcX5_twos_0 30 rfl rfl)
theorem dX5_twos_31 : decode cX5_twos 31 = .ok (.if_icmp .gt 7, 3) := e_163 (x := 0) (y := 7) drcX5_twos_0 31 rfl rfl
theorem dX5_twos_34 : decode cX5_twos 34 = .ok (.iconst 1, 1) := dec_4 (gB drcX5_twos_0 34 rfl rfl)
theorem dX5_twos_35 : decode cX5_twos 35 = .ok (.goto 4, 3) := e_167 (x := 0) (y := 4) drcX5_twos_0 35 rfl rfl
theorem dX5_twos_38 : decode cX5_twos 38 = .ok (.iconst 0, 1) := dec_3 (gB drcX5_twos_0 38 rfl rfl)
theorem dX5_twos_39 : decode cX5_twos 39 = .ok (.invokestatic 42, 3) := e_184 (x := 0) (y := 42) drcX5_twos_0 39 rfl rfl
theorem dX5_twos_42 : decode cX5_twos 42 = .ok (.iload_n 3, 1) := dec_29 (gB drcX5_twos_0 42 rfl rfl)
theorem dX5_twos_43 : decode cX5_twos 43 = .ok (.ifCond .ne 20, 3) := e_154 (x := 0) (y := 20) drcX5_twos_0 43 rfl rfl
theorem dX5_twos_46 : decode cX5_twos 46 = .ok (.iload_n 2, 1) := dec_28 (gB drcX5_twos_0 46 rfl rfl)
theorem dX5_twos_47 : decode cX5_twos 47 = .ok (.aload 4, 2) := e_25 (x := 4) drcX5_twos_0 47 rfl rfl
theorem dX5_twos_49 : decode cX5_twos 49 = .ok (.aload_n 0, 1) := dec_42 (gB drcX5_twos_0 49 rfl rfl)
theorem dX5_twos_50 : decode cX5_twos 50 = .ok (.getfield 29, 3) := e_180 (x := 0) (y := 29) drcX5_twos_0 50 rfl rfl
theorem dX5_twos_53 : decode cX5_twos 53 = .ok (.aload_n 0, 1) := dec_42 (gB drcX5_twos_0 53 rfl rfl)
theorem dX5_twos_54 : decode cX5_twos 54 = .ok (.getfield 24, 3) := e_180 (x := 0) (y := 24) drcX5_twos_0 54 rfl rfl
theorem dX5_twos_57 : decode cX5_twos 57 = .ok (.invokestatic 154, 3) := e_184 (x := 0) (y := 154) drcX5_twos_0 57 rfl rfl
theorem dX5_twos_60 : decode cX5_twos 60 = .ok (.goto 23, 3) := e_167 (x := 0) (y := 23) drcX5_twos_0 60 rfl rfl
theorem dX5_twos_63 : decode cX5_twos 63 = .ok (.iload_n 3, 1) := dec_29 (gB drcX5_twos_0 63 rfl rfl)
theorem dX5_twos_64 : decode cX5_twos 64 = .ok (.iconst 1, 1) := dec_4 (gB drcX5_twos_1 0 rfl rfl)
theorem dX5_twos_65 : decode cX5_twos 65 = .ok (.if_icmp .ne 12, 3) := e_160 (x := 0) (y := 12) drcX5_twos_1 1 rfl rfl
theorem dX5_twos_68 : decode cX5_twos 68 = .ok (.iload_n 2, 1) := dec_28 (gB drcX5_twos_1 4 rfl rfl)
theorem dX5_twos_69 : decode cX5_twos 69 = .ok (.aload 4, 2) := e_25 (x := 4) drcX5_twos_1 5 rfl rfl
theorem dX5_twos_71 : decode cX5_twos 71 = .ok (.invokestatic 160, 3) := e_184 (x := 0) (y := 160) drcX5_twos_1 7 rfl rfl
theorem dX5_twos_74 : decode cX5_twos 74 = .ok (.goto 9, 3) := e_167 (x := 0) (y := 9) drcX5_twos_1 10 rfl rfl
theorem dX5_twos_77 : decode cX5_twos 77 = .ok (.iload_n 2, 1) := dec_28 (gB drcX5_twos_1 13 rfl rfl)
theorem dX5_twos_78 : decode cX5_twos 78 = .ok (.aload 4, 2) := e_25 (x := 4) drcX5_twos_1 14 rfl rfl
theorem dX5_twos_80 : decode cX5_twos 80 = .ok (.invokestatic 164, 3) := e_184 (x := 0) (y := 164) drcX5_twos_1 16 rfl rfl
theorem dX5_twos_83 : decode cX5_twos 83 = .ok (.aload_n 0, 1) := dec_42 (gB drcX5_twos_1 19 rfl rfl)
theorem dX5_twos_84 : decode cX5_twos 84 = .ok (.aload 4, 2) := e_25 (x := 4) drcX5_twos_1 20 rfl rfl
theorem dX5_twos_86 : decode cX5_twos 86 = .ok (.getfield 50, 3) := e_180 (x := 0) (y := 50) drcX5_twos_1 22 rfl rfl
theorem dX5_twos_89 : decode cX5_twos 89 = .ok (.invokevirtual 54, 3) := e_182 (x := 0) (y := 54) drcX5_twos_1 25 rfl rfl
theorem dX5_twos_92 : decode cX5_twos 92 = .ok (.ireturn, 1) := dec_172 (gB drcX5_twos_1 28 rfl rfl)
def lkcX5_line_0 : List UInt8 := [0x2a, 0x1b, 0xb6, 0x00, 0x25, 0x3a, 0x05, 0x1c, 0x04, 0xa1, 0x00, 0x0d, 0x1c, 0x10, 0x40, 0xa3, 0x00, 0x07, 0x04, 0xa7, 0x00, 0x04, 0x03, 0xb8, 0x00, 0x2a, 0x1d, 0x9b, 0x00, 0x0c, 0x1d, 0x1c, 0xa3, 0x00, 0x07, 0x04, 0xa7, 0x00, 0x04, 0x03, 0xb8, 0x00, 0x2a, 0x15, 0x04, 0x9b, 0x00, 0x0d, 0x15, 0x04, 0x1c, 0xa2, 0x00, 0x07, 0x04, 0xa7, 0x00, 0x04, 0x03, 0xb8, 0x00, 0x2a, 0x2a, 0xb4]
def lkcX5_line_1 : List UInt8 := [0x00, 0x1d, 0xb6, 0x00, 0x41, 0x03, 0x36, 0x06, 0x15, 0x06, 0x1c, 0xa2, 0x00, 0x19, 0x2a, 0xb4, 0x00, 0x1d, 0x1c, 0x1d, 0x15, 0x04, 0x15, 0x06, 0xb8, 0x00, 0xa7, 0xb6, 0x00, 0x44, 0x84, 0x06, 0x01, 0xa7, 0xff, 0xe7, 0x2a, 0x19, 0x05, 0x2a, 0xb4, 0x00, 0x1d, 0xb6, 0x00, 0x68, 0xac]
def tkcX5_line_1 : List UInt8 := lkcX5_line_1 ++ []
def tkcX5_line_0 : List UInt8 := lkcX5_line_0 ++ tkcX5_line_1
theorem drcX5_line_0 : (cX5_line).data.toList.drop 0 = lkcX5_line_0 ++ tkcX5_line_1 := by decide +kernel
theorem drcX5_line_1 : (cX5_line).data.toList.drop 64 = lkcX5_line_1 ++ [] := dr_step drcX5_line_0 rfl
theorem dX5_line_0 : decode cX5_line 0 = .ok (.aload_n 0, 1) := dec_42 (gB drcX5_line_0 0 rfl rfl)
theorem dX5_line_1 : decode cX5_line 1 = .ok (.iload_n 1, 1) := dec_27 (gB drcX5_line_0 1 rfl rfl)
theorem dX5_line_2 : decode cX5_line 2 = .ok (.invokevirtual 37, 3) := e_182 (x := 0) (y := 37) drcX5_line_0 2 rfl rfl
theorem dX5_line_5 : decode cX5_line 5 = .ok (.astore 5, 2) := e_58 (x := 5) drcX5_line_0 5 rfl rfl
theorem dX5_line_7 : decode cX5_line 7 = .ok (.iload_n 2, 1) := dec_28 (gB drcX5_line_0 7 rfl rfl)
theorem dX5_line_8 : decode cX5_line 8 = .ok (.iconst 1, 1) := dec_4 (gB drcX5_line_0 8 rfl rfl)
theorem dX5_line_9 : decode cX5_line 9 = .ok (.if_icmp .lt 13, 3) := e_161 (x := 0) (y := 13) drcX5_line_0 9 rfl rfl
theorem dX5_line_12 : decode cX5_line 12 = .ok (.iload_n 2, 1) := dec_28 (gB drcX5_line_0 12 rfl rfl)
theorem dX5_line_13 : decode cX5_line 13 = .ok (.bipush 64, 2) := e_16 (x := 64) drcX5_line_0 13 rfl rfl
theorem dX5_line_15 : decode cX5_line 15 = .ok (.if_icmp .gt 7, 3) := e_163 (x := 0) (y := 7) drcX5_line_0 15 rfl rfl
theorem dX5_line_18 : decode cX5_line 18 = .ok (.iconst 1, 1) := dec_4 (gB drcX5_line_0 18 rfl rfl)
theorem dX5_line_19 : decode cX5_line 19 = .ok (.goto 4, 3) := e_167 (x := 0) (y := 4) drcX5_line_0 19 rfl rfl
theorem dX5_line_22 : decode cX5_line 22 = .ok (.iconst 0, 1) := dec_3 (gB drcX5_line_0 22 rfl rfl)
theorem dX5_line_23 : decode cX5_line 23 = .ok (.invokestatic 42, 3) := e_184 (x := 0) (y := 42) drcX5_line_0 23 rfl rfl
theorem dX5_line_26 : decode cX5_line 26 = .ok (.iload_n 3, 1) := dec_29 (gB drcX5_line_0 26 rfl rfl)
theorem dX5_line_27 : decode cX5_line 27 = .ok (.ifCond .lt 12, 3) := e_155 (x := 0) (y := 12) drcX5_line_0 27 rfl rfl
theorem dX5_line_30 : decode cX5_line 30 = .ok (.iload_n 3, 1) := dec_29 (gB drcX5_line_0 30 rfl rfl)
theorem dX5_line_31 : decode cX5_line 31 = .ok (.iload_n 2, 1) := dec_28 (gB drcX5_line_0 31 rfl rfl)
theorem dX5_line_32 : decode cX5_line 32 = .ok (.if_icmp .gt 7, 3) := e_163 (x := 0) (y := 7) drcX5_line_0 32 rfl rfl
theorem dX5_line_35 : decode cX5_line 35 = .ok (.iconst 1, 1) := dec_4 (gB drcX5_line_0 35 rfl rfl)
theorem dX5_line_36 : decode cX5_line 36 = .ok (.goto 4, 3) := e_167 (x := 0) (y := 4) drcX5_line_0 36 rfl rfl
theorem dX5_line_39 : decode cX5_line 39 = .ok (.iconst 0, 1) := dec_3 (gB drcX5_line_0 39 rfl rfl)
theorem dX5_line_40 : decode cX5_line 40 = .ok (.invokestatic 42, 3) := e_184 (x := 0) (y := 42) drcX5_line_0 40 rfl rfl
theorem dX5_line_43 : decode cX5_line 43 = .ok (.iload 4, 2) := e_21 (x := 4) drcX5_line_0 43 rfl rfl
theorem dX5_line_45 : decode cX5_line 45 = .ok (.ifCond .lt 13, 3) := e_155 (x := 0) (y := 13) drcX5_line_0 45 rfl rfl
theorem dX5_line_48 : decode cX5_line 48 = .ok (.iload 4, 2) := e_21 (x := 4) drcX5_line_0 48 rfl rfl
theorem dX5_line_50 : decode cX5_line 50 = .ok (.iload_n 2, 1) := dec_28 (gB drcX5_line_0 50 rfl rfl)
theorem dX5_line_51 : decode cX5_line 51 = .ok (.if_icmp .ge 7, 3) := e_162 (x := 0) (y := 7) drcX5_line_0 51 rfl rfl
theorem dX5_line_54 : decode cX5_line 54 = .ok (.iconst 1, 1) := dec_4 (gB drcX5_line_0 54 rfl rfl)
theorem dX5_line_55 : decode cX5_line 55 = .ok (.goto 4, 3) := e_167 (x := 0) (y := 4) drcX5_line_0 55 rfl rfl
theorem dX5_line_58 : decode cX5_line 58 = .ok (.iconst 0, 1) := dec_3 (gB drcX5_line_0 58 rfl rfl)
theorem dX5_line_59 : decode cX5_line 59 = .ok (.invokestatic 42, 3) := e_184 (x := 0) (y := 42) drcX5_line_0 59 rfl rfl
theorem dX5_line_62 : decode cX5_line 62 = .ok (.aload_n 0, 1) := dec_42 (gB drcX5_line_0 62 rfl rfl)
theorem dX5_line_63 : decode cX5_line 63 = .ok (.getfield 29, 3) := dec_180 (a := 0) (b := 29) (gB drcX5_line_0 63 rfl rfl) (gB drcX5_line_1 0 rfl rfl) (gB drcX5_line_1 1 rfl rfl)
theorem dX5_line_66 : decode cX5_line 66 = .ok (.invokevirtual 65, 3) := e_182 (x := 0) (y := 65) drcX5_line_1 2 rfl rfl
theorem dX5_line_69 : decode cX5_line 69 = .ok (.iconst 0, 1) := dec_3 (gB drcX5_line_1 5 rfl rfl)
theorem dX5_line_70 : decode cX5_line 70 = .ok (.istore 6, 2) := e_54 (x := 6) drcX5_line_1 6 rfl rfl
theorem dX5_line_72 : decode cX5_line 72 = .ok (.iload 6, 2) := e_21 (x := 6) drcX5_line_1 8 rfl rfl
theorem dX5_line_74 : decode cX5_line 74 = .ok (.iload_n 2, 1) := dec_28 (gB drcX5_line_1 10 rfl rfl)
theorem dX5_line_75 : decode cX5_line 75 = .ok (.if_icmp .ge 25, 3) := e_162 (x := 0) (y := 25) drcX5_line_1 11 rfl rfl
theorem dX5_line_78 : decode cX5_line 78 = .ok (.aload_n 0, 1) := dec_42 (gB drcX5_line_1 14 rfl rfl)
theorem dX5_line_79 : decode cX5_line 79 = .ok (.getfield 29, 3) := e_180 (x := 0) (y := 29) drcX5_line_1 15 rfl rfl
theorem dX5_line_82 : decode cX5_line 82 = .ok (.iload_n 2, 1) := dec_28 (gB drcX5_line_1 18 rfl rfl)
theorem dX5_line_83 : decode cX5_line 83 = .ok (.iload_n 3, 1) := dec_29 (gB drcX5_line_1 19 rfl rfl)
theorem dX5_line_84 : decode cX5_line 84 = .ok (.iload 4, 2) := e_21 (x := 4) drcX5_line_1 20 rfl rfl
theorem dX5_line_86 : decode cX5_line 86 = .ok (.iload 6, 2) := e_21 (x := 6) drcX5_line_1 22 rfl rfl
theorem dX5_line_88 : decode cX5_line 88 = .ok (.invokestatic 167, 3) := e_184 (x := 0) (y := 167) drcX5_line_1 24 rfl rfl
theorem dX5_line_91 : decode cX5_line 91 = .ok (.invokevirtual 68, 3) := e_182 (x := 0) (y := 68) drcX5_line_1 27 rfl rfl
theorem dX5_line_94 : decode cX5_line 94 = .ok (.iinc 6 1, 3) := e_132 (x := 6) (y := 1) drcX5_line_1 30 rfl rfl
theorem dX5_line_97 : decode cX5_line 97 = .ok (.goto (-25), 3) := e_167 (x := 255) (y := 231) drcX5_line_1 33 rfl rfl
theorem dX5_line_100 : decode cX5_line 100 = .ok (.aload_n 0, 1) := dec_42 (gB drcX5_line_1 36 rfl rfl)
theorem dX5_line_101 : decode cX5_line 101 = .ok (.aload 5, 2) := e_25 (x := 5) drcX5_line_1 37 rfl rfl
theorem dX5_line_103 : decode cX5_line 103 = .ok (.aload_n 0, 1) := dec_42 (gB drcX5_line_1 39 rfl rfl)
theorem dX5_line_104 : decode cX5_line 104 = .ok (.getfield 29, 3) := e_180 (x := 0) (y := 29) drcX5_line_1 40 rfl rfl
theorem dX5_line_107 : decode cX5_line 107 = .ok (.invokevirtual 104, 3) := e_182 (x := 0) (y := 104) drcX5_line_1 43 rfl rfl
theorem dX5_line_110 : decode cX5_line 110 = .ok (.ireturn, 1) := dec_172 (gB drcX5_line_1 46 rfl rfl)
def lkcX5_grow_0 : List UInt8 := [0x2a, 0x1b, 0xb6, 0x00, 0x8c, 0x4e, 0x1c, 0x04, 0xa1, 0x00, 0x0c, 0x1c, 0x06, 0xa3, 0x00, 0x07, 0x04, 0xa7, 0x00, 0x04, 0x03, 0xb8, 0x00, 0x2a, 0x2d, 0x1c, 0x2a, 0xb4, 0x00, 0x1d, 0xb6, 0x00, 0xab, 0x9a, 0x00, 0x08, 0x2a, 0xb6, 0x00, 0x79, 0xac, 0x2a, 0x2d, 0xb4, 0x00, 0x90, 0xb4, 0x00, 0x32, 0xb6, 0x00, 0xaf, 0xac]
def tkcX5_grow_0 : List UInt8 := lkcX5_grow_0 ++ []
theorem drcX5_grow_0 : (cX5_grow).data.toList.drop 0 = lkcX5_grow_0 ++ [] := by decide +kernel
theorem dX5_grow_0 : decode cX5_grow 0 = .ok (.aload_n 0, 1) := dec_42 (gB drcX5_grow_0 0 rfl rfl)
theorem dX5_grow_1 : decode cX5_grow 1 = .ok (.iload_n 1, 1) := dec_27 (gB drcX5_grow_0 1 rfl rfl)
theorem dX5_grow_2 : decode cX5_grow 2 = .ok (.invokevirtual 140, 3) := e_182 (x := 0) (y := 140) drcX5_grow_0 2 rfl rfl
theorem dX5_grow_5 : decode cX5_grow 5 = .ok (.astore_n 3, 1) := dec_78 (gB drcX5_grow_0 5 rfl rfl)
theorem dX5_grow_6 : decode cX5_grow 6 = .ok (.iload_n 2, 1) := dec_28 (gB drcX5_grow_0 6 rfl rfl)
theorem dX5_grow_7 : decode cX5_grow 7 = .ok (.iconst 1, 1) := dec_4 (gB drcX5_grow_0 7 rfl rfl)
theorem dX5_grow_8 : decode cX5_grow 8 = .ok (.if_icmp .lt 12, 3) := e_161 (x := 0) (y := 12) drcX5_grow_0 8 rfl rfl
theorem dX5_grow_11 : decode cX5_grow 11 = .ok (.iload_n 2, 1) := dec_28 (gB drcX5_grow_0 11 rfl rfl)
theorem dX5_grow_12 : decode cX5_grow 12 = .ok (.iconst 3, 1) := dec_6 (gB drcX5_grow_0 12 rfl rfl)
theorem dX5_grow_13 : decode cX5_grow 13 = .ok (.if_icmp .gt 7, 3) := e_163 (x := 0) (y := 7) drcX5_grow_0 13 rfl rfl
theorem dX5_grow_16 : decode cX5_grow 16 = .ok (.iconst 1, 1) := dec_4 (gB drcX5_grow_0 16 rfl rfl)
theorem dX5_grow_17 : decode cX5_grow 17 = .ok (.goto 4, 3) := e_167 (x := 0) (y := 4) drcX5_grow_0 17 rfl rfl
theorem dX5_grow_20 : decode cX5_grow 20 = .ok (.iconst 0, 1) := dec_3 (gB drcX5_grow_0 20 rfl rfl)
theorem dX5_grow_21 : decode cX5_grow 21 = .ok (.invokestatic 42, 3) := e_184 (x := 0) (y := 42) drcX5_grow_0 21 rfl rfl
theorem dX5_grow_24 : decode cX5_grow 24 = .ok (.aload_n 3, 1) := dec_45 (gB drcX5_grow_0 24 rfl rfl)
theorem dX5_grow_25 : decode cX5_grow 25 = .ok (.iload_n 2, 1) := dec_28 (gB drcX5_grow_0 25 rfl rfl)
theorem dX5_grow_26 : decode cX5_grow 26 = .ok (.aload_n 0, 1) := dec_42 (gB drcX5_grow_0 26 rfl rfl)
theorem dX5_grow_27 : decode cX5_grow 27 = .ok (.getfield 29, 3) := e_180 (x := 0) (y := 29) drcX5_grow_0 27 rfl rfl
theorem dX5_grow_30 : decode cX5_grow 30 = .ok (.invokevirtual 171, 3) := e_182 (x := 0) (y := 171) drcX5_grow_0 30 rfl rfl
theorem dX5_grow_33 : decode cX5_grow 33 = .ok (.ifCond .ne 8, 3) := e_154 (x := 0) (y := 8) drcX5_grow_0 33 rfl rfl
theorem dX5_grow_36 : decode cX5_grow 36 = .ok (.aload_n 0, 1) := dec_42 (gB drcX5_grow_0 36 rfl rfl)
theorem dX5_grow_37 : decode cX5_grow 37 = .ok (.invokevirtual 121, 3) := e_182 (x := 0) (y := 121) drcX5_grow_0 37 rfl rfl
theorem dX5_grow_40 : decode cX5_grow 40 = .ok (.ireturn, 1) := dec_172 (gB drcX5_grow_0 40 rfl rfl)
theorem dX5_grow_41 : decode cX5_grow 41 = .ok (.aload_n 0, 1) := dec_42 (gB drcX5_grow_0 41 rfl rfl)
theorem dX5_grow_42 : decode cX5_grow 42 = .ok (.aload_n 3, 1) := dec_45 (gB drcX5_grow_0 42 rfl rfl)
theorem dX5_grow_43 : decode cX5_grow 43 = .ok (.getfield 144, 3) := e_180 (x := 0) (y := 144) drcX5_grow_0 43 rfl rfl
theorem dX5_grow_46 : decode cX5_grow 46 = .ok (.getfield 50, 3) := e_180 (x := 0) (y := 50) drcX5_grow_0 46 rfl rfl
theorem dX5_grow_49 : decode cX5_grow 49 = .ok (.invokevirtual 175, 3) := e_182 (x := 0) (y := 175) drcX5_grow_0 49 rfl rfl
theorem dX5_grow_52 : decode cX5_grow 52 = .ok (.ireturn, 1) := dec_172 (gB drcX5_grow_0 52 rfl rfl)
def lkcX5_shrink_0 : List UInt8 := [0x2a, 0x1b, 0xb6, 0x00, 0x8c, 0x4d, 0x2c, 0xb4, 0x00, 0xb2, 0x9e, 0x00, 0x07, 0x04, 0xa7, 0x00, 0x04, 0x03, 0xb8, 0x00, 0x85, 0x2a, 0x2c, 0x2a, 0xb4, 0x00, 0x1d, 0xb6, 0x00, 0xb5, 0xb6, 0x00, 0xaf, 0xac]
def tkcX5_shrink_0 : List UInt8 := lkcX5_shrink_0 ++ []
theorem drcX5_shrink_0 : (cX5_shrink).data.toList.drop 0 = lkcX5_shrink_0 ++ [] := by decide +kernel
theorem dX5_shrink_0 : decode cX5_shrink 0 = .ok (.aload_n 0, 1) := dec_42 (gB drcX5_shrink_0 0 rfl rfl)
theorem dX5_shrink_1 : decode cX5_shrink 1 = .ok (.iload_n 1, 1) := dec_27 (gB drcX5_shrink_0 1 rfl rfl)
theorem dX5_shrink_2 : decode cX5_shrink 2 = .ok (.invokevirtual 140, 3) := e_182 (x := 0) (y := 140) drcX5_shrink_0 2 rfl rfl
theorem dX5_shrink_5 : decode cX5_shrink 5 = .ok (.astore_n 2, 1) := dec_77 (gB drcX5_shrink_0 5 rfl rfl)
theorem dX5_shrink_6 : decode cX5_shrink 6 = .ok (.aload_n 2, 1) := dec_44 (gB drcX5_shrink_0 6 rfl rfl)
theorem dX5_shrink_7 : decode cX5_shrink 7 = .ok (.getfield 178, 3) := e_180 (x := 0) (y := 178) drcX5_shrink_0 7 rfl rfl
theorem dX5_shrink_10 : decode cX5_shrink 10 = .ok (.ifCond .le 7, 3) := e_158 (x := 0) (y := 7) drcX5_shrink_0 10 rfl rfl
theorem dX5_shrink_13 : decode cX5_shrink 13 = .ok (.iconst 1, 1) := dec_4 (gB drcX5_shrink_0 13 rfl rfl)
theorem dX5_shrink_14 : decode cX5_shrink 14 = .ok (.goto 4, 3) := e_167 (x := 0) (y := 4) drcX5_shrink_0 14 rfl rfl
theorem dX5_shrink_17 : decode cX5_shrink 17 = .ok (.iconst 0, 1) := dec_3 (gB drcX5_shrink_0 17 rfl rfl)
theorem dX5_shrink_18 : decode cX5_shrink 18 = .ok (.invokestatic 133, 3) := e_184 (x := 0) (y := 133) drcX5_shrink_0 18 rfl rfl
theorem dX5_shrink_21 : decode cX5_shrink 21 = .ok (.aload_n 0, 1) := dec_42 (gB drcX5_shrink_0 21 rfl rfl)
theorem dX5_shrink_22 : decode cX5_shrink 22 = .ok (.aload_n 2, 1) := dec_44 (gB drcX5_shrink_0 22 rfl rfl)
theorem dX5_shrink_23 : decode cX5_shrink 23 = .ok (.aload_n 0, 1) := dec_42 (gB drcX5_shrink_0 23 rfl rfl)
theorem dX5_shrink_24 : decode cX5_shrink 24 = .ok (.getfield 29, 3) := e_180 (x := 0) (y := 29) drcX5_shrink_0 24 rfl rfl
theorem dX5_shrink_27 : decode cX5_shrink 27 = .ok (.invokevirtual 181, 3) := e_182 (x := 0) (y := 181) drcX5_shrink_0 27 rfl rfl
theorem dX5_shrink_30 : decode cX5_shrink 30 = .ok (.invokevirtual 175, 3) := e_182 (x := 0) (y := 175) drcX5_shrink_0 30 rfl rfl
theorem dX5_shrink_33 : decode cX5_shrink 33 = .ok (.ireturn, 1) := dec_172 (gB drcX5_shrink_0 33 rfl rfl)
def lkcX5_fresh_0 : List UInt8 := [0x2a, 0x1b, 0xb6, 0x00, 0x8c, 0x4d, 0x2c, 0xb4, 0x00, 0xb2, 0x3e, 0x2c, 0xb6, 0x00, 0xb8, 0x2a, 0x1d, 0xb6, 0x00, 0xaf, 0xac]
def tkcX5_fresh_0 : List UInt8 := lkcX5_fresh_0 ++ []
theorem drcX5_fresh_0 : (cX5_fresh).data.toList.drop 0 = lkcX5_fresh_0 ++ [] := by decide +kernel
theorem dX5_fresh_0 : decode cX5_fresh 0 = .ok (.aload_n 0, 1) := dec_42 (gB drcX5_fresh_0 0 rfl rfl)
theorem dX5_fresh_1 : decode cX5_fresh 1 = .ok (.iload_n 1, 1) := dec_27 (gB drcX5_fresh_0 1 rfl rfl)
theorem dX5_fresh_2 : decode cX5_fresh 2 = .ok (.invokevirtual 140, 3) := e_182 (x := 0) (y := 140) drcX5_fresh_0 2 rfl rfl
theorem dX5_fresh_5 : decode cX5_fresh 5 = .ok (.astore_n 2, 1) := dec_77 (gB drcX5_fresh_0 5 rfl rfl)
theorem dX5_fresh_6 : decode cX5_fresh 6 = .ok (.aload_n 2, 1) := dec_44 (gB drcX5_fresh_0 6 rfl rfl)
theorem dX5_fresh_7 : decode cX5_fresh 7 = .ok (.getfield 178, 3) := e_180 (x := 0) (y := 178) drcX5_fresh_0 7 rfl rfl
theorem dX5_fresh_10 : decode cX5_fresh 10 = .ok (.istore_n 3, 1) := dec_62 (gB drcX5_fresh_0 10 rfl rfl)
theorem dX5_fresh_11 : decode cX5_fresh 11 = .ok (.aload_n 2, 1) := dec_44 (gB drcX5_fresh_0 11 rfl rfl)
theorem dX5_fresh_12 : decode cX5_fresh 12 = .ok (.invokevirtual 184, 3) := e_182 (x := 0) (y := 184) drcX5_fresh_0 12 rfl rfl
theorem dX5_fresh_15 : decode cX5_fresh 15 = .ok (.aload_n 0, 1) := dec_42 (gB drcX5_fresh_0 15 rfl rfl)
theorem dX5_fresh_16 : decode cX5_fresh 16 = .ok (.iload_n 3, 1) := dec_29 (gB drcX5_fresh_0 16 rfl rfl)
theorem dX5_fresh_17 : decode cX5_fresh 17 = .ok (.invokevirtual 175, 3) := e_182 (x := 0) (y := 175) drcX5_fresh_0 17 rfl rfl
theorem dX5_fresh_20 : decode cX5_fresh 20 = .ok (.ireturn, 1) := dec_172 (gB drcX5_fresh_0 20 rfl rfl)
def lkcX5_length_0 : List UInt8 := [0x2a, 0x1b, 0xb6, 0x00, 0x25, 0xb4, 0x00, 0x32, 0xac]
def tkcX5_length_0 : List UInt8 := lkcX5_length_0 ++ []
theorem drcX5_length_0 : (cX5_length).data.toList.drop 0 = lkcX5_length_0 ++ [] := by decide +kernel
theorem dX5_length_0 : decode cX5_length 0 = .ok (.aload_n 0, 1) := dec_42 (gB drcX5_length_0 0 rfl rfl)
theorem dX5_length_1 : decode cX5_length 1 = .ok (.iload_n 1, 1) := dec_27 (gB drcX5_length_0 1 rfl rfl)
theorem dX5_length_2 : decode cX5_length 2 = .ok (.invokevirtual 37, 3) := e_182 (x := 0) (y := 37) drcX5_length_0 2 rfl rfl
theorem dX5_length_5 : decode cX5_length 5 = .ok (.getfield 50, 3) := e_180 (x := 0) (y := 50) drcX5_length_0 5 rfl rfl
theorem dX5_length_8 : decode cX5_length 8 = .ok (.ireturn, 1) := dec_172 (gB drcX5_length_0 8 rfl rfl)
def lkcX5_isB_0 : List UInt8 := [0x2a, 0x1b, 0xb6, 0x00, 0x25, 0x4e, 0x1c, 0x9b, 0x00, 0x0f, 0x1c, 0x2d, 0xb4, 0x00, 0x32, 0xa2, 0x00, 0x07, 0x04, 0xa7, 0x00, 0x04, 0x03, 0xb8, 0x00, 0x3e, 0x2d, 0x1c, 0xb6, 0x00, 0x47, 0xac]
def tkcX5_isB_0 : List UInt8 := lkcX5_isB_0 ++ []
theorem drcX5_isB_0 : (cX5_isB).data.toList.drop 0 = lkcX5_isB_0 ++ [] := by decide +kernel
theorem dX5_isB_0 : decode cX5_isB 0 = .ok (.aload_n 0, 1) := dec_42 (gB drcX5_isB_0 0 rfl rfl)
theorem dX5_isB_1 : decode cX5_isB 1 = .ok (.iload_n 1, 1) := dec_27 (gB drcX5_isB_0 1 rfl rfl)
theorem dX5_isB_2 : decode cX5_isB 2 = .ok (.invokevirtual 37, 3) := e_182 (x := 0) (y := 37) drcX5_isB_0 2 rfl rfl
theorem dX5_isB_5 : decode cX5_isB 5 = .ok (.astore_n 3, 1) := dec_78 (gB drcX5_isB_0 5 rfl rfl)
theorem dX5_isB_6 : decode cX5_isB 6 = .ok (.iload_n 2, 1) := dec_28 (gB drcX5_isB_0 6 rfl rfl)
theorem dX5_isB_7 : decode cX5_isB 7 = .ok (.ifCond .lt 15, 3) := e_155 (x := 0) (y := 15) drcX5_isB_0 7 rfl rfl
theorem dX5_isB_10 : decode cX5_isB 10 = .ok (.iload_n 2, 1) := dec_28 (gB drcX5_isB_0 10 rfl rfl)
theorem dX5_isB_11 : decode cX5_isB 11 = .ok (.aload_n 3, 1) := dec_45 (gB drcX5_isB_0 11 rfl rfl)
theorem dX5_isB_12 : decode cX5_isB 12 = .ok (.getfield 50, 3) := e_180 (x := 0) (y := 50) drcX5_isB_0 12 rfl rfl
theorem dX5_isB_15 : decode cX5_isB 15 = .ok (.if_icmp .ge 7, 3) := e_162 (x := 0) (y := 7) drcX5_isB_0 15 rfl rfl
theorem dX5_isB_18 : decode cX5_isB 18 = .ok (.iconst 1, 1) := dec_4 (gB drcX5_isB_0 18 rfl rfl)
theorem dX5_isB_19 : decode cX5_isB 19 = .ok (.goto 4, 3) := e_167 (x := 0) (y := 4) drcX5_isB_0 19 rfl rfl
theorem dX5_isB_22 : decode cX5_isB 22 = .ok (.iconst 0, 1) := dec_3 (gB drcX5_isB_0 22 rfl rfl)
theorem dX5_isB_23 : decode cX5_isB 23 = .ok (.invokestatic 62, 3) := e_184 (x := 0) (y := 62) drcX5_isB_0 23 rfl rfl
theorem dX5_isB_26 : decode cX5_isB 26 = .ok (.aload_n 3, 1) := dec_45 (gB drcX5_isB_0 26 rfl rfl)
theorem dX5_isB_27 : decode cX5_isB 27 = .ok (.iload_n 2, 1) := dec_28 (gB drcX5_isB_0 27 rfl rfl)
theorem dX5_isB_28 : decode cX5_isB 28 = .ok (.invokevirtual 71, 3) := e_182 (x := 0) (y := 71) drcX5_isB_0 28 rfl rfl
theorem dX5_isB_31 : decode cX5_isB 31 = .ok (.ireturn, 1) := dec_172 (gB drcX5_isB_0 31 rfl rfl)
def lkcX5_text_0 : List UInt8 := [0x2a, 0x1b, 0xb6, 0x00, 0x25, 0xb8, 0x00, 0xbb, 0xb0]
def tkcX5_text_0 : List UInt8 := lkcX5_text_0 ++ []
theorem drcX5_text_0 : (cX5_text).data.toList.drop 0 = lkcX5_text_0 ++ [] := by decide +kernel
theorem dX5_text_0 : decode cX5_text 0 = .ok (.aload_n 0, 1) := dec_42 (gB drcX5_text_0 0 rfl rfl)
theorem dX5_text_1 : decode cX5_text 1 = .ok (.iload_n 1, 1) := dec_27 (gB drcX5_text_0 1 rfl rfl)
theorem dX5_text_2 : decode cX5_text 2 = .ok (.invokevirtual 37, 3) := e_182 (x := 0) (y := 37) drcX5_text_0 2 rfl rfl
theorem dX5_text_5 : decode cX5_text 5 = .ok (.invokestatic 187, 3) := e_184 (x := 0) (y := 187) drcX5_text_0 5 rfl rfl
theorem dX5_text_8 : decode cX5_text 8 = .ok (.areturn, 1) := dec_176 (gB drcX5_text_0 8 rfl rfl)
def lkcX5_count_0 : List UInt8 := [0x2a, 0x1b, 0xb6, 0x00, 0x25, 0x4e, 0x2d, 0xb8, 0x00, 0x6c, 0x36, 0x04, 0x1c, 0x99, 0x00, 0x08, 0x15, 0x04, 0xa7, 0x00, 0x0a, 0x2d, 0xb4, 0x00, 0x32, 0x15, 0x04, 0x64, 0xac]
def tkcX5_count_0 : List UInt8 := lkcX5_count_0 ++ []
theorem drcX5_count_0 : (cX5_count).data.toList.drop 0 = lkcX5_count_0 ++ [] := by decide +kernel
theorem dX5_count_0 : decode cX5_count 0 = .ok (.aload_n 0, 1) := dec_42 (gB drcX5_count_0 0 rfl rfl)
theorem dX5_count_1 : decode cX5_count 1 = .ok (.iload_n 1, 1) := dec_27 (gB drcX5_count_0 1 rfl rfl)
theorem dX5_count_2 : decode cX5_count 2 = .ok (.invokevirtual 37, 3) := e_182 (x := 0) (y := 37) drcX5_count_0 2 rfl rfl
theorem dX5_count_5 : decode cX5_count 5 = .ok (.astore_n 3, 1) := dec_78 (gB drcX5_count_0 5 rfl rfl)
theorem dX5_count_6 : decode cX5_count 6 = .ok (.aload_n 3, 1) := dec_45 (gB drcX5_count_0 6 rfl rfl)
theorem dX5_count_7 : decode cX5_count 7 = .ok (.invokestatic 108, 3) := e_184 (x := 0) (y := 108) drcX5_count_0 7 rfl rfl
theorem dX5_count_10 : decode cX5_count 10 = .ok (.istore 4, 2) := e_54 (x := 4) drcX5_count_0 10 rfl rfl
theorem dX5_count_12 : decode cX5_count 12 = .ok (.iload_n 2, 1) := dec_28 (gB drcX5_count_0 12 rfl rfl)
theorem dX5_count_13 : decode cX5_count 13 = .ok (.ifCond .eq 8, 3) := e_153 (x := 0) (y := 8) drcX5_count_0 13 rfl rfl
theorem dX5_count_16 : decode cX5_count 16 = .ok (.iload 4, 2) := e_21 (x := 4) drcX5_count_0 16 rfl rfl
theorem dX5_count_18 : decode cX5_count 18 = .ok (.goto 10, 3) := e_167 (x := 0) (y := 10) drcX5_count_0 18 rfl rfl
theorem dX5_count_21 : decode cX5_count 21 = .ok (.aload_n 3, 1) := dec_45 (gB drcX5_count_0 21 rfl rfl)
theorem dX5_count_22 : decode cX5_count 22 = .ok (.getfield 50, 3) := e_180 (x := 0) (y := 50) drcX5_count_0 22 rfl rfl
theorem dX5_count_25 : decode cX5_count 25 = .ok (.iload 4, 2) := e_21 (x := 4) drcX5_count_0 25 rfl rfl
theorem dX5_count_27 : decode cX5_count 27 = .ok (.isub, 1) := dec_100 (gB drcX5_count_0 27 rfl rfl)
theorem dX5_count_28 : decode cX5_count 28 = .ok (.ireturn, 1) := dec_172 (gB drcX5_count_0 28 rfl rfl)
def lkcX5_find_0 : List UInt8 := [0x2a, 0x1b, 0xb6, 0x00, 0x25, 0x3a, 0x04, 0x2a, 0x1c, 0xb6, 0x00, 0x25, 0x3a, 0x05, 0x1d, 0x9b, 0x00, 0x10, 0x1d, 0x19, 0x04, 0xb4, 0x00, 0x32, 0xa3, 0x00, 0x07, 0x04, 0xa7, 0x00, 0x04, 0x03, 0xb8, 0x00, 0x3e, 0x1d, 0x36, 0x06, 0x15, 0x06, 0x19, 0x04, 0xb4, 0x00, 0x32, 0xa3, 0x00, 0x18, 0x19, 0x04, 0x15, 0x06, 0x19, 0x05, 0xb8, 0x00, 0xbf, 0x99, 0x00, 0x06, 0x15, 0x06, 0xac, 0x84]
def lkcX5_find_1 : List UInt8 := [0x06, 0x01, 0xa7, 0xff, 0xe4, 0x02, 0xac]
def tkcX5_find_1 : List UInt8 := lkcX5_find_1 ++ []
def tkcX5_find_0 : List UInt8 := lkcX5_find_0 ++ tkcX5_find_1
theorem drcX5_find_0 : (cX5_find).data.toList.drop 0 = lkcX5_find_0 ++ tkcX5_find_1 := by decide +kernel
theorem drcX5_find_1 : (cX5_find).data.toList.drop 64 = lkcX5_find_1 ++ [] := dr_step drcX5_find_0 rfl
theorem dX5_find_0 : decode cX5_find 0 = .ok (.aload_n 0, 1) := dec_42 (gB drcX5_find_0 0 rfl rfl)
theorem dX5_find_1 : decode cX5_find 1 = .ok (.iload_n 1, 1) := dec_27 (gB drcX5_find_0 1 rfl rfl)
theorem dX5_find_2 : decode cX5_find 2 = .ok (.invokevirtual 37, 3) := e_182 (x := 0) (y := 37) drcX5_find_0 2 rfl rfl
theorem dX5_find_5 : decode cX5_find 5 = .ok (.astore 4, 2) := e_58 (x := 4) drcX5_find_0 5 rfl rfl
theorem dX5_find_7 : decode cX5_find 7 = .ok (.aload_n 0, 1) := dec_42 (gB drcX5_find_0 7 rfl rfl)
theorem dX5_find_8 : decode cX5_find 8 = .ok (.iload_n 2, 1) := dec_28 (gB drcX5_find_0 8 rfl rfl)
theorem dX5_find_9 : decode cX5_find 9 = .ok (.invokevirtual 37, 3) := e_182 (x := 0) (y := 37) drcX5_find_0 9 rfl rfl
theorem dX5_find_12 : decode cX5_find 12 = .ok (.astore 5, 2) := e_58 (x := 5) drcX5_find_0 12 rfl rfl
theorem dX5_find_14 : decode cX5_find 14 = .ok (.iload_n 3, 1) := dec_29 (gB drcX5_find_0 14 rfl rfl)
theorem dX5_find_15 : decode cX5_find 15 = .ok (.ifCond .lt 16, 3) := e_155 (x := 0) (y := 16) drcX5_find_0 15 rfl rfl
theorem dX5_find_18 : decode cX5_find 18 = .ok (.iload_n 3, 1) := dec_29 (gB drcX5_find_0 18 rfl rfl)
theorem dX5_find_19 : decode cX5_find 19 = .ok (.aload 4, 2) := e_25 (x := 4) drcX5_find_0 19 rfl rfl
theorem dX5_find_21 : decode cX5_find 21 = .ok (.getfield 50, 3) := e_180 (x := 0) (y := 50) drcX5_find_0 21 rfl rfl
theorem dX5_find_24 : decode cX5_find 24 = .ok (.if_icmp .gt 7, 3) := e_163 (x := 0) (y := 7) drcX5_find_0 24 rfl rfl
theorem dX5_find_27 : decode cX5_find 27 = .ok (.iconst 1, 1) := dec_4 (gB drcX5_find_0 27 rfl rfl)
theorem dX5_find_28 : decode cX5_find 28 = .ok (.goto 4, 3) := e_167 (x := 0) (y := 4) drcX5_find_0 28 rfl rfl
theorem dX5_find_31 : decode cX5_find 31 = .ok (.iconst 0, 1) := dec_3 (gB drcX5_find_0 31 rfl rfl)
theorem dX5_find_32 : decode cX5_find 32 = .ok (.invokestatic 62, 3) := e_184 (x := 0) (y := 62) drcX5_find_0 32 rfl rfl
theorem dX5_find_35 : decode cX5_find 35 = .ok (.iload_n 3, 1) := dec_29 (gB drcX5_find_0 35 rfl rfl)
theorem dX5_find_36 : decode cX5_find 36 = .ok (.istore 6, 2) := e_54 (x := 6) drcX5_find_0 36 rfl rfl
theorem dX5_find_38 : decode cX5_find 38 = .ok (.iload 6, 2) := e_21 (x := 6) drcX5_find_0 38 rfl rfl
theorem dX5_find_40 : decode cX5_find 40 = .ok (.aload 4, 2) := e_25 (x := 4) drcX5_find_0 40 rfl rfl
theorem dX5_find_42 : decode cX5_find 42 = .ok (.getfield 50, 3) := e_180 (x := 0) (y := 50) drcX5_find_0 42 rfl rfl
theorem dX5_find_45 : decode cX5_find 45 = .ok (.if_icmp .gt 24, 3) := e_163 (x := 0) (y := 24) drcX5_find_0 45 rfl rfl
theorem dX5_find_48 : decode cX5_find 48 = .ok (.aload 4, 2) := e_25 (x := 4) drcX5_find_0 48 rfl rfl
theorem dX5_find_50 : decode cX5_find 50 = .ok (.iload 6, 2) := e_21 (x := 6) drcX5_find_0 50 rfl rfl
theorem dX5_find_52 : decode cX5_find 52 = .ok (.aload 5, 2) := e_25 (x := 5) drcX5_find_0 52 rfl rfl
theorem dX5_find_54 : decode cX5_find 54 = .ok (.invokestatic 191, 3) := e_184 (x := 0) (y := 191) drcX5_find_0 54 rfl rfl
theorem dX5_find_57 : decode cX5_find 57 = .ok (.ifCond .eq 6, 3) := e_153 (x := 0) (y := 6) drcX5_find_0 57 rfl rfl
theorem dX5_find_60 : decode cX5_find 60 = .ok (.iload 6, 2) := e_21 (x := 6) drcX5_find_0 60 rfl rfl
theorem dX5_find_62 : decode cX5_find 62 = .ok (.ireturn, 1) := dec_172 (gB drcX5_find_0 62 rfl rfl)
theorem dX5_find_63 : decode cX5_find 63 = .ok (.iinc 6 1, 3) := dec_132 (a := 6) (b := 1) (gB drcX5_find_0 63 rfl rfl) (gB drcX5_find_1 0 rfl rfl) (gB drcX5_find_1 1 rfl rfl)
theorem dX5_find_66 : decode cX5_find 66 = .ok (.goto (-28), 3) := e_167 (x := 255) (y := 228) drcX5_find_1 2 rfl rfl
theorem dX5_find_69 : decode cX5_find 69 = .ok (.iconst (-1), 1) := dec_2 (gB drcX5_find_1 5 rfl rfl)
theorem dX5_find_70 : decode cX5_find 70 = .ok (.ireturn, 1) := dec_172 (gB drcX5_find_1 6 rfl rfl)
def lkcX5_findLast_0 : List UInt8 := [0x2a, 0x1b, 0xb6, 0x00, 0x25, 0x3a, 0x04, 0x2a, 0x1c, 0xb6, 0x00, 0x25, 0x3a, 0x05, 0x1d, 0x9b, 0x00, 0x10, 0x1d, 0x19, 0x04, 0xb4, 0x00, 0x32, 0xa3, 0x00, 0x07, 0x04, 0xa7, 0x00, 0x04, 0x03, 0xb8, 0x00, 0x3e, 0x1d, 0x36, 0x06, 0x15, 0x06, 0x9b, 0x00, 0x18, 0x19, 0x04, 0x15, 0x06, 0x19, 0x05, 0xb8, 0x00, 0xbf, 0x99, 0x00, 0x06, 0x15, 0x06, 0xac, 0x84, 0x06, 0xff, 0xa7, 0xff, 0xe9]
def lkcX5_findLast_1 : List UInt8 := [0x02, 0xac]
def tkcX5_findLast_1 : List UInt8 := lkcX5_findLast_1 ++ []
def tkcX5_findLast_0 : List UInt8 := lkcX5_findLast_0 ++ tkcX5_findLast_1
theorem drcX5_findLast_0 : (cX5_findLast).data.toList.drop 0 = lkcX5_findLast_0 ++ tkcX5_findLast_1 := by decide +kernel
theorem drcX5_findLast_1 : (cX5_findLast).data.toList.drop 64 = lkcX5_findLast_1 ++ [] := dr_step drcX5_findLast_0 rfl
theorem dX5_findLast_0 : decode cX5_findLast 0 = .ok (.aload_n 0, 1) := dec_42 (gB drcX5_findLast_0 0 rfl rfl)
theorem dX5_findLast_1 : decode cX5_findLast 1 = .ok (.iload_n 1, 1) := dec_27 (gB drcX5_findLast_0 1 rfl rfl)
theorem dX5_findLast_2 : decode cX5_findLast 2 = .ok (.invokevirtual 37, 3) := e_182 (x := 0) (y := 37) drcX5_findLast_0 2 rfl rfl
theorem dX5_findLast_5 : decode cX5_findLast 5 = .ok (.astore 4, 2) := e_58 (x := 4) drcX5_findLast_0 5 rfl rfl
theorem dX5_findLast_7 : decode cX5_findLast 7 = .ok (.aload_n 0, 1) := dec_42 (gB drcX5_findLast_0 7 rfl rfl)
theorem dX5_findLast_8 : decode cX5_findLast 8 = .ok (.iload_n 2, 1) := dec_28 (gB drcX5_findLast_0 8 rfl rfl)
theorem dX5_findLast_9 : decode cX5_findLast 9 = .ok (.invokevirtual 37, 3) := e_182 (x := 0) (y := 37) drcX5_findLast_0 9 rfl rfl
theorem dX5_findLast_12 : decode cX5_findLast 12 = .ok (.astore 5, 2) := e_58 (x := 5) drcX5_findLast_0 12 rfl rfl
theorem dX5_findLast_14 : decode cX5_findLast 14 = .ok (.iload_n 3, 1) := dec_29 (gB drcX5_findLast_0 14 rfl rfl)
theorem dX5_findLast_15 : decode cX5_findLast 15 = .ok (.ifCond .lt 16, 3) := e_155 (x := 0) (y := 16) drcX5_findLast_0 15 rfl rfl
theorem dX5_findLast_18 : decode cX5_findLast 18 = .ok (.iload_n 3, 1) := dec_29 (gB drcX5_findLast_0 18 rfl rfl)
theorem dX5_findLast_19 : decode cX5_findLast 19 = .ok (.aload 4, 2) := e_25 (x := 4) drcX5_findLast_0 19 rfl rfl
theorem dX5_findLast_21 : decode cX5_findLast 21 = .ok (.getfield 50, 3) := e_180 (x := 0) (y := 50) drcX5_findLast_0 21 rfl rfl
theorem dX5_findLast_24 : decode cX5_findLast 24 = .ok (.if_icmp .gt 7, 3) := e_163 (x := 0) (y := 7) drcX5_findLast_0 24 rfl rfl
theorem dX5_findLast_27 : decode cX5_findLast 27 = .ok (.iconst 1, 1) := dec_4 (gB drcX5_findLast_0 27 rfl rfl)
theorem dX5_findLast_28 : decode cX5_findLast 28 = .ok (.goto 4, 3) := e_167 (x := 0) (y := 4) drcX5_findLast_0 28 rfl rfl
theorem dX5_findLast_31 : decode cX5_findLast 31 = .ok (.iconst 0, 1) := dec_3 (gB drcX5_findLast_0 31 rfl rfl)
theorem dX5_findLast_32 : decode cX5_findLast 32 = .ok (.invokestatic 62, 3) := e_184 (x := 0) (y := 62) drcX5_findLast_0 32 rfl rfl
theorem dX5_findLast_35 : decode cX5_findLast 35 = .ok (.iload_n 3, 1) := dec_29 (gB drcX5_findLast_0 35 rfl rfl)
theorem dX5_findLast_36 : decode cX5_findLast 36 = .ok (.istore 6, 2) := e_54 (x := 6) drcX5_findLast_0 36 rfl rfl
theorem dX5_findLast_38 : decode cX5_findLast 38 = .ok (.iload 6, 2) := e_21 (x := 6) drcX5_findLast_0 38 rfl rfl
theorem dX5_findLast_40 : decode cX5_findLast 40 = .ok (.ifCond .lt 24, 3) := e_155 (x := 0) (y := 24) drcX5_findLast_0 40 rfl rfl
theorem dX5_findLast_43 : decode cX5_findLast 43 = .ok (.aload 4, 2) := e_25 (x := 4) drcX5_findLast_0 43 rfl rfl
theorem dX5_findLast_45 : decode cX5_findLast 45 = .ok (.iload 6, 2) := e_21 (x := 6) drcX5_findLast_0 45 rfl rfl
theorem dX5_findLast_47 : decode cX5_findLast 47 = .ok (.aload 5, 2) := e_25 (x := 5) drcX5_findLast_0 47 rfl rfl
theorem dX5_findLast_49 : decode cX5_findLast 49 = .ok (.invokestatic 191, 3) := e_184 (x := 0) (y := 191) drcX5_findLast_0 49 rfl rfl
theorem dX5_findLast_52 : decode cX5_findLast 52 = .ok (.ifCond .eq 6, 3) := e_153 (x := 0) (y := 6) drcX5_findLast_0 52 rfl rfl
theorem dX5_findLast_55 : decode cX5_findLast 55 = .ok (.iload 6, 2) := e_21 (x := 6) drcX5_findLast_0 55 rfl rfl
theorem dX5_findLast_57 : decode cX5_findLast 57 = .ok (.ireturn, 1) := dec_172 (gB drcX5_findLast_0 57 rfl rfl)
theorem dX5_findLast_58 : decode cX5_findLast 58 = .ok (.iinc 6 (-1), 3) := e_132 (x := 6) (y := 255) drcX5_findLast_0 58 rfl rfl
theorem dX5_findLast_61 : decode cX5_findLast 61 = .ok (.goto (-23), 3) := e_167 (x := 255) (y := 233) drcX5_findLast_0 61 rfl rfl
theorem dX5_findLast_64 : decode cX5_findLast 64 = .ok (.iconst (-1), 1) := dec_2 (gB drcX5_findLast_1 0 rfl rfl)
theorem dX5_findLast_65 : decode cX5_findLast 65 = .ok (.ireturn, 1) := dec_172 (gB drcX5_findLast_1 1 rfl rfl)
def lkcX5_order_0 : List UInt8 := [0x2a, 0x1b, 0xb6, 0x00, 0x25, 0x2a, 0x1c, 0xb6, 0x00, 0x25, 0xb8, 0x00, 0xc3, 0xac]
def tkcX5_order_0 : List UInt8 := lkcX5_order_0 ++ []
theorem drcX5_order_0 : (cX5_order).data.toList.drop 0 = lkcX5_order_0 ++ [] := by decide +kernel
theorem dX5_order_0 : decode cX5_order 0 = .ok (.aload_n 0, 1) := dec_42 (gB drcX5_order_0 0 rfl rfl)
theorem dX5_order_1 : decode cX5_order 1 = .ok (.iload_n 1, 1) := dec_27 (gB drcX5_order_0 1 rfl rfl)
theorem dX5_order_2 : decode cX5_order 2 = .ok (.invokevirtual 37, 3) := e_182 (x := 0) (y := 37) drcX5_order_0 2 rfl rfl
theorem dX5_order_5 : decode cX5_order 5 = .ok (.aload_n 0, 1) := dec_42 (gB drcX5_order_0 5 rfl rfl)
theorem dX5_order_6 : decode cX5_order 6 = .ok (.iload_n 2, 1) := dec_28 (gB drcX5_order_0 6 rfl rfl)
theorem dX5_order_7 : decode cX5_order 7 = .ok (.invokevirtual 37, 3) := e_182 (x := 0) (y := 37) drcX5_order_0 7 rfl rfl
theorem dX5_order_10 : decode cX5_order 10 = .ok (.invokestatic 195, 3) := e_184 (x := 0) (y := 195) drcX5_order_0 10 rfl rfl
theorem dX5_order_13 : decode cX5_order 13 = .ok (.ireturn, 1) := dec_172 (gB drcX5_order_0 13 rfl rfl)
def lkcX5_isMirrored_0 : List UInt8 := [0x2a, 0x1b, 0xb6, 0x00, 0x25, 0x4d, 0x2c, 0x03, 0x2c, 0xb4, 0x00, 0x32, 0xb8, 0x00, 0xc6, 0xac]
def tkcX5_isMirrored_0 : List UInt8 := lkcX5_isMirrored_0 ++ []
theorem drcX5_isMirrored_0 : (cX5_isMirrored).data.toList.drop 0 = lkcX5_isMirrored_0 ++ [] := by decide +kernel
theorem dX5_isMirrored_0 : decode cX5_isMirrored 0 = .ok (.aload_n 0, 1) := dec_42 (gB drcX5_isMirrored_0 0 rfl rfl)
theorem dX5_isMirrored_1 : decode cX5_isMirrored 1 = .ok (.iload_n 1, 1) := dec_27 (gB drcX5_isMirrored_0 1 rfl rfl)
theorem dX5_isMirrored_2 : decode cX5_isMirrored 2 = .ok (.invokevirtual 37, 3) := e_182 (x := 0) (y := 37) drcX5_isMirrored_0 2 rfl rfl
theorem dX5_isMirrored_5 : decode cX5_isMirrored 5 = .ok (.astore_n 2, 1) := dec_77 (gB drcX5_isMirrored_0 5 rfl rfl)
theorem dX5_isMirrored_6 : decode cX5_isMirrored 6 = .ok (.aload_n 2, 1) := dec_44 (gB drcX5_isMirrored_0 6 rfl rfl)
theorem dX5_isMirrored_7 : decode cX5_isMirrored 7 = .ok (.iconst 0, 1) := dec_3 (gB drcX5_isMirrored_0 7 rfl rfl)
theorem dX5_isMirrored_8 : decode cX5_isMirrored 8 = .ok (.aload_n 2, 1) := dec_44 (gB drcX5_isMirrored_0 8 rfl rfl)
theorem dX5_isMirrored_9 : decode cX5_isMirrored 9 = .ok (.getfield 50, 3) := e_180 (x := 0) (y := 50) drcX5_isMirrored_0 9 rfl rfl
theorem dX5_isMirrored_12 : decode cX5_isMirrored 12 = .ok (.invokestatic 198, 3) := e_184 (x := 0) (y := 198) drcX5_isMirrored_0 12 rfl rfl
theorem dX5_isMirrored_15 : decode cX5_isMirrored 15 = .ok (.ireturn, 1) := dec_172 (gB drcX5_isMirrored_0 15 rfl rfl)
def lkcX5_spread_0 : List UInt8 := [0x2a, 0x1b, 0xb6, 0x00, 0x25, 0x3a, 0x04, 0x1c, 0x9b, 0x00, 0x10, 0x1c, 0x19, 0x04, 0xb4, 0x00, 0x32, 0xa3, 0x00, 0x07, 0x04, 0xa7, 0x00, 0x04, 0x03, 0xb8, 0x00, 0x2a, 0x19, 0x04, 0x1c, 0x1d, 0xb8, 0x00, 0xca, 0xac]
def tkcX5_spread_0 : List UInt8 := lkcX5_spread_0 ++ []
theorem drcX5_spread_0 : (cX5_spread).data.toList.drop 0 = lkcX5_spread_0 ++ [] := by decide +kernel
theorem dX5_spread_0 : decode cX5_spread 0 = .ok (.aload_n 0, 1) := dec_42 (gB drcX5_spread_0 0 rfl rfl)
theorem dX5_spread_1 : decode cX5_spread 1 = .ok (.iload_n 1, 1) := dec_27 (gB drcX5_spread_0 1 rfl rfl)
theorem dX5_spread_2 : decode cX5_spread 2 = .ok (.invokevirtual 37, 3) := e_182 (x := 0) (y := 37) drcX5_spread_0 2 rfl rfl
theorem dX5_spread_5 : decode cX5_spread 5 = .ok (.astore 4, 2) := e_58 (x := 4) drcX5_spread_0 5 rfl rfl
theorem dX5_spread_7 : decode cX5_spread 7 = .ok (.iload_n 2, 1) := dec_28 (gB drcX5_spread_0 7 rfl rfl)
theorem dX5_spread_8 : decode cX5_spread 8 = .ok (.ifCond .lt 16, 3) := e_155 (x := 0) (y := 16) drcX5_spread_0 8 rfl rfl
theorem dX5_spread_11 : decode cX5_spread 11 = .ok (.iload_n 2, 1) := dec_28 (gB drcX5_spread_0 11 rfl rfl)
theorem dX5_spread_12 : decode cX5_spread 12 = .ok (.aload 4, 2) := e_25 (x := 4) drcX5_spread_0 12 rfl rfl
theorem dX5_spread_14 : decode cX5_spread 14 = .ok (.getfield 50, 3) := e_180 (x := 0) (y := 50) drcX5_spread_0 14 rfl rfl
theorem dX5_spread_17 : decode cX5_spread 17 = .ok (.if_icmp .gt 7, 3) := e_163 (x := 0) (y := 7) drcX5_spread_0 17 rfl rfl
theorem dX5_spread_20 : decode cX5_spread 20 = .ok (.iconst 1, 1) := dec_4 (gB drcX5_spread_0 20 rfl rfl)
theorem dX5_spread_21 : decode cX5_spread 21 = .ok (.goto 4, 3) := e_167 (x := 0) (y := 4) drcX5_spread_0 21 rfl rfl
theorem dX5_spread_24 : decode cX5_spread 24 = .ok (.iconst 0, 1) := dec_3 (gB drcX5_spread_0 24 rfl rfl)
theorem dX5_spread_25 : decode cX5_spread 25 = .ok (.invokestatic 42, 3) := e_184 (x := 0) (y := 42) drcX5_spread_0 25 rfl rfl
theorem dX5_spread_28 : decode cX5_spread 28 = .ok (.aload 4, 2) := e_25 (x := 4) drcX5_spread_0 28 rfl rfl
theorem dX5_spread_30 : decode cX5_spread 30 = .ok (.iload_n 2, 1) := dec_28 (gB drcX5_spread_0 30 rfl rfl)
theorem dX5_spread_31 : decode cX5_spread 31 = .ok (.iload_n 3, 1) := dec_29 (gB drcX5_spread_0 31 rfl rfl)
theorem dX5_spread_32 : decode cX5_spread 32 = .ok (.invokestatic 202, 3) := e_184 (x := 0) (y := 202) drcX5_spread_0 32 rfl rfl
theorem dX5_spread_35 : decode cX5_spread 35 = .ok (.ireturn, 1) := dec_172 (gB drcX5_spread_0 35 rfl rfl)
def lkcX5_kinds_0 : List UInt8 := [0x2a, 0x1b, 0xb6, 0x00, 0x25, 0x3a, 0x04, 0x1c, 0x9b, 0x00, 0x10, 0x1c, 0x19, 0x04, 0xb4, 0x00, 0x32, 0xa3, 0x00, 0x07, 0x04, 0xa7, 0x00, 0x04, 0x03, 0xb8, 0x00, 0x2a, 0x19, 0x04, 0x1c, 0x1d, 0xb8, 0x00, 0xce, 0xac]
def tkcX5_kinds_0 : List UInt8 := lkcX5_kinds_0 ++ []
theorem drcX5_kinds_0 : (cX5_kinds).data.toList.drop 0 = lkcX5_kinds_0 ++ [] := by decide +kernel
theorem dX5_kinds_0 : decode cX5_kinds 0 = .ok (.aload_n 0, 1) := dec_42 (gB drcX5_kinds_0 0 rfl rfl)
theorem dX5_kinds_1 : decode cX5_kinds 1 = .ok (.iload_n 1, 1) := dec_27 (gB drcX5_kinds_0 1 rfl rfl)
theorem dX5_kinds_2 : decode cX5_kinds 2 = .ok (.invokevirtual 37, 3) := e_182 (x := 0) (y := 37) drcX5_kinds_0 2 rfl rfl
theorem dX5_kinds_5 : decode cX5_kinds 5 = .ok (.astore 4, 2) := e_58 (x := 4) drcX5_kinds_0 5 rfl rfl
theorem dX5_kinds_7 : decode cX5_kinds 7 = .ok (.iload_n 2, 1) := dec_28 (gB drcX5_kinds_0 7 rfl rfl)
theorem dX5_kinds_8 : decode cX5_kinds 8 = .ok (.ifCond .lt 16, 3) := e_155 (x := 0) (y := 16) drcX5_kinds_0 8 rfl rfl
theorem dX5_kinds_11 : decode cX5_kinds 11 = .ok (.iload_n 2, 1) := dec_28 (gB drcX5_kinds_0 11 rfl rfl)
theorem dX5_kinds_12 : decode cX5_kinds 12 = .ok (.aload 4, 2) := e_25 (x := 4) drcX5_kinds_0 12 rfl rfl
theorem dX5_kinds_14 : decode cX5_kinds 14 = .ok (.getfield 50, 3) := e_180 (x := 0) (y := 50) drcX5_kinds_0 14 rfl rfl
theorem dX5_kinds_17 : decode cX5_kinds 17 = .ok (.if_icmp .gt 7, 3) := e_163 (x := 0) (y := 7) drcX5_kinds_0 17 rfl rfl
theorem dX5_kinds_20 : decode cX5_kinds 20 = .ok (.iconst 1, 1) := dec_4 (gB drcX5_kinds_0 20 rfl rfl)
theorem dX5_kinds_21 : decode cX5_kinds 21 = .ok (.goto 4, 3) := e_167 (x := 0) (y := 4) drcX5_kinds_0 21 rfl rfl
theorem dX5_kinds_24 : decode cX5_kinds 24 = .ok (.iconst 0, 1) := dec_3 (gB drcX5_kinds_0 24 rfl rfl)
theorem dX5_kinds_25 : decode cX5_kinds 25 = .ok (.invokestatic 42, 3) := e_184 (x := 0) (y := 42) drcX5_kinds_0 25 rfl rfl
theorem dX5_kinds_28 : decode cX5_kinds 28 = .ok (.aload 4, 2) := e_25 (x := 4) drcX5_kinds_0 28 rfl rfl
theorem dX5_kinds_30 : decode cX5_kinds 30 = .ok (.iload_n 2, 1) := dec_28 (gB drcX5_kinds_0 30 rfl rfl)
theorem dX5_kinds_31 : decode cX5_kinds 31 = .ok (.iload_n 3, 1) := dec_29 (gB drcX5_kinds_0 31 rfl rfl)
theorem dX5_kinds_32 : decode cX5_kinds 32 = .ok (.invokestatic 206, 3) := e_184 (x := 0) (y := 206) drcX5_kinds_0 32 rfl rfl
theorem dX5_kinds_35 : decode cX5_kinds 35 = .ok (.ireturn, 1) := dec_172 (gB drcX5_kinds_0 35 rfl rfl)
def lkcX5_times_0 : List UInt8 := [0x2a, 0x1b, 0xb6, 0x00, 0x25, 0xb8, 0x00, 0xd1, 0xac]
def tkcX5_times_0 : List UInt8 := lkcX5_times_0 ++ []
theorem drcX5_times_0 : (cX5_times).data.toList.drop 0 = lkcX5_times_0 ++ [] := by decide +kernel
theorem dX5_times_0 : decode cX5_times 0 = .ok (.aload_n 0, 1) := dec_42 (gB drcX5_times_0 0 rfl rfl)
theorem dX5_times_1 : decode cX5_times 1 = .ok (.iload_n 1, 1) := dec_27 (gB drcX5_times_0 1 rfl rfl)
theorem dX5_times_2 : decode cX5_times 2 = .ok (.invokevirtual 37, 3) := e_182 (x := 0) (y := 37) drcX5_times_0 2 rfl rfl
theorem dX5_times_5 : decode cX5_times 5 = .ok (.invokestatic 209, 3) := e_184 (x := 0) (y := 209) drcX5_times_0 5 rfl rfl
theorem dX5_times_8 : decode cX5_times 8 = .ok (.ireturn, 1) := dec_172 (gB drcX5_times_0 8 rfl rfl)
def lkcX5_overlaps_0 : List UInt8 := [0x2a, 0x1b, 0xb6, 0x00, 0x25, 0xb8, 0x00, 0xd4, 0xac]
def tkcX5_overlaps_0 : List UInt8 := lkcX5_overlaps_0 ++ []
theorem drcX5_overlaps_0 : (cX5_overlaps).data.toList.drop 0 = lkcX5_overlaps_0 ++ [] := by decide +kernel
theorem dX5_overlaps_0 : decode cX5_overlaps 0 = .ok (.aload_n 0, 1) := dec_42 (gB drcX5_overlaps_0 0 rfl rfl)
theorem dX5_overlaps_1 : decode cX5_overlaps 1 = .ok (.iload_n 1, 1) := dec_27 (gB drcX5_overlaps_0 1 rfl rfl)
theorem dX5_overlaps_2 : decode cX5_overlaps 2 = .ok (.invokevirtual 37, 3) := e_182 (x := 0) (y := 37) drcX5_overlaps_0 2 rfl rfl
theorem dX5_overlaps_5 : decode cX5_overlaps 5 = .ok (.invokestatic 212, 3) := e_184 (x := 0) (y := 212) drcX5_overlaps_0 5 rfl rfl
theorem dX5_overlaps_8 : decode cX5_overlaps 8 = .ok (.ireturn, 1) := dec_172 (gB drcX5_overlaps_0 8 rfl rfl)
def lkcX5_mirrors_0 : List UInt8 := [0x2a, 0x1b, 0xb6, 0x00, 0x25, 0xb8, 0x00, 0xd7, 0xac]
def tkcX5_mirrors_0 : List UInt8 := lkcX5_mirrors_0 ++ []
theorem drcX5_mirrors_0 : (cX5_mirrors).data.toList.drop 0 = lkcX5_mirrors_0 ++ [] := by decide +kernel
theorem dX5_mirrors_0 : decode cX5_mirrors 0 = .ok (.aload_n 0, 1) := dec_42 (gB drcX5_mirrors_0 0 rfl rfl)
theorem dX5_mirrors_1 : decode cX5_mirrors 1 = .ok (.iload_n 1, 1) := dec_27 (gB drcX5_mirrors_0 1 rfl rfl)
theorem dX5_mirrors_2 : decode cX5_mirrors 2 = .ok (.invokevirtual 37, 3) := e_182 (x := 0) (y := 37) drcX5_mirrors_0 2 rfl rfl
theorem dX5_mirrors_5 : decode cX5_mirrors 5 = .ok (.invokestatic 215, 3) := e_184 (x := 0) (y := 215) drcX5_mirrors_0 5 rfl rfl
theorem dX5_mirrors_8 : decode cX5_mirrors 8 = .ok (.ireturn, 1) := dec_172 (gB drcX5_mirrors_0 8 rfl rfl)
def lkcX5_folds_0 : List UInt8 := [0x2a, 0x1b, 0xb6, 0x00, 0x25, 0xb8, 0x00, 0xda, 0xac]
def tkcX5_folds_0 : List UInt8 := lkcX5_folds_0 ++ []
theorem drcX5_folds_0 : (cX5_folds).data.toList.drop 0 = lkcX5_folds_0 ++ [] := by decide +kernel
theorem dX5_folds_0 : decode cX5_folds 0 = .ok (.aload_n 0, 1) := dec_42 (gB drcX5_folds_0 0 rfl rfl)
theorem dX5_folds_1 : decode cX5_folds 1 = .ok (.iload_n 1, 1) := dec_27 (gB drcX5_folds_0 1 rfl rfl)
theorem dX5_folds_2 : decode cX5_folds 2 = .ok (.invokevirtual 37, 3) := e_182 (x := 0) (y := 37) drcX5_folds_0 2 rfl rfl
theorem dX5_folds_5 : decode cX5_folds 5 = .ok (.invokestatic 218, 3) := e_184 (x := 0) (y := 218) drcX5_folds_0 5 rfl rfl
theorem dX5_folds_8 : decode cX5_folds 8 = .ok (.ireturn, 1) := dec_172 (gB drcX5_folds_0 8 rfl rfl)
def lkcX5_least_0 : List UInt8 := [0x2a, 0x1b, 0xb6, 0x00, 0x25, 0xb8, 0x00, 0xdd, 0xac]
def tkcX5_least_0 : List UInt8 := lkcX5_least_0 ++ []
theorem drcX5_least_0 : (cX5_least).data.toList.drop 0 = lkcX5_least_0 ++ [] := by decide +kernel
theorem dX5_least_0 : decode cX5_least 0 = .ok (.aload_n 0, 1) := dec_42 (gB drcX5_least_0 0 rfl rfl)
theorem dX5_least_1 : decode cX5_least 1 = .ok (.iload_n 1, 1) := dec_27 (gB drcX5_least_0 1 rfl rfl)
theorem dX5_least_2 : decode cX5_least 2 = .ok (.invokevirtual 37, 3) := e_182 (x := 0) (y := 37) drcX5_least_0 2 rfl rfl
theorem dX5_least_5 : decode cX5_least 5 = .ok (.invokestatic 221, 3) := e_184 (x := 0) (y := 221) drcX5_least_0 5 rfl rfl
theorem dX5_least_8 : decode cX5_least 8 = .ok (.ireturn, 1) := dec_172 (gB drcX5_least_0 8 rfl rfl)
def lkcX5_isApart_0 : List UInt8 := [0x2a, 0x1b, 0x1c, 0xb6, 0x00, 0x72, 0x2a, 0xb4, 0x00, 0x18, 0xb6, 0x00, 0x81, 0xac]
def tkcX5_isApart_0 : List UInt8 := lkcX5_isApart_0 ++ []
theorem drcX5_isApart_0 : (cX5_isApart).data.toList.drop 0 = lkcX5_isApart_0 ++ [] := by decide +kernel
theorem dX5_isApart_0 : decode cX5_isApart 0 = .ok (.aload_n 0, 1) := dec_42 (gB drcX5_isApart_0 0 rfl rfl)
theorem dX5_isApart_1 : decode cX5_isApart 1 = .ok (.iload_n 1, 1) := dec_27 (gB drcX5_isApart_0 1 rfl rfl)
theorem dX5_isApart_2 : decode cX5_isApart 2 = .ok (.iload_n 2, 1) := dec_28 (gB drcX5_isApart_0 2 rfl rfl)
theorem dX5_isApart_3 : decode cX5_isApart 3 = .ok (.invokevirtual 114, 3) := e_182 (x := 0) (y := 114) drcX5_isApart_0 3 rfl rfl
theorem dX5_isApart_6 : decode cX5_isApart 6 = .ok (.aload_n 0, 1) := dec_42 (gB drcX5_isApart_0 6 rfl rfl)
theorem dX5_isApart_7 : decode cX5_isApart 7 = .ok (.getfield 24, 3) := e_180 (x := 0) (y := 24) drcX5_isApart_0 7 rfl rfl
theorem dX5_isApart_10 : decode cX5_isApart 10 = .ok (.invokevirtual 129, 3) := e_182 (x := 0) (y := 129) drcX5_isApart_0 10 rfl rfl
theorem dX5_isApart_13 : decode cX5_isApart 13 = .ok (.ireturn, 1) := dec_172 (gB drcX5_isApart_0 13 rfl rfl)
def lkcX5_turns_0 : List UInt8 := [0x2a, 0x1b, 0xb6, 0x00, 0x8c, 0x4d, 0xbb, 0x00, 0xe0, 0x59, 0xb7, 0x00, 0xe2, 0x4e, 0x03, 0x36, 0x04, 0x15, 0x04, 0x2c, 0xb4, 0x00, 0xb2, 0xa2, 0x00, 0x14, 0x2d, 0x2c, 0x15, 0x04, 0xb6, 0x00, 0xe3, 0xb6, 0x00, 0xe6, 0x57, 0x84, 0x04, 0x01, 0xa7, 0xff, 0xe9, 0x2d, 0xb6, 0x00, 0xea, 0xb0]
def tkcX5_turns_0 : List UInt8 := lkcX5_turns_0 ++ []
theorem drcX5_turns_0 : (cX5_turns).data.toList.drop 0 = lkcX5_turns_0 ++ [] := by decide +kernel
theorem dX5_turns_0 : decode cX5_turns 0 = .ok (.aload_n 0, 1) := dec_42 (gB drcX5_turns_0 0 rfl rfl)
theorem dX5_turns_1 : decode cX5_turns 1 = .ok (.iload_n 1, 1) := dec_27 (gB drcX5_turns_0 1 rfl rfl)
theorem dX5_turns_2 : decode cX5_turns 2 = .ok (.invokevirtual 140, 3) := e_182 (x := 0) (y := 140) drcX5_turns_0 2 rfl rfl
theorem dX5_turns_5 : decode cX5_turns 5 = .ok (.astore_n 2, 1) := dec_77 (gB drcX5_turns_0 5 rfl rfl)
theorem dX5_turns_6 : decode cX5_turns 6 = .ok (.new 224, 3) := e_187 (x := 0) (y := 224) drcX5_turns_0 6 rfl rfl
theorem dX5_turns_9 : decode cX5_turns 9 = .ok (.dup, 1) := dec_89 (gB drcX5_turns_0 9 rfl rfl)
theorem dX5_turns_10 : decode cX5_turns 10 = .ok (.invokespecial 226, 3) := e_183 (x := 0) (y := 226) drcX5_turns_0 10 rfl rfl
theorem dX5_turns_13 : decode cX5_turns 13 = .ok (.astore_n 3, 1) := dec_78 (gB drcX5_turns_0 13 rfl rfl)
theorem dX5_turns_14 : decode cX5_turns 14 = .ok (.iconst 0, 1) := dec_3 (gB drcX5_turns_0 14 rfl rfl)
theorem dX5_turns_15 : decode cX5_turns 15 = .ok (.istore 4, 2) := e_54 (x := 4) drcX5_turns_0 15 rfl rfl
theorem dX5_turns_17 : decode cX5_turns 17 = .ok (.iload 4, 2) := e_21 (x := 4) drcX5_turns_0 17 rfl rfl
theorem dX5_turns_19 : decode cX5_turns 19 = .ok (.aload_n 2, 1) := dec_44 (gB drcX5_turns_0 19 rfl rfl)
theorem dX5_turns_20 : decode cX5_turns 20 = .ok (.getfield 178, 3) := e_180 (x := 0) (y := 178) drcX5_turns_0 20 rfl rfl
theorem dX5_turns_23 : decode cX5_turns 23 = .ok (.if_icmp .ge 20, 3) := e_162 (x := 0) (y := 20) drcX5_turns_0 23 rfl rfl
theorem dX5_turns_26 : decode cX5_turns 26 = .ok (.aload_n 3, 1) := dec_45 (gB drcX5_turns_0 26 rfl rfl)
theorem dX5_turns_27 : decode cX5_turns 27 = .ok (.aload_n 2, 1) := dec_44 (gB drcX5_turns_0 27 rfl rfl)
theorem dX5_turns_28 : decode cX5_turns 28 = .ok (.iload 4, 2) := e_21 (x := 4) drcX5_turns_0 28 rfl rfl
theorem dX5_turns_30 : decode cX5_turns 30 = .ok (.invokevirtual 227, 3) := e_182 (x := 0) (y := 227) drcX5_turns_0 30 rfl rfl
theorem dX5_turns_33 : decode cX5_turns 33 = .ok (.invokevirtual 230, 3) := e_182 (x := 0) (y := 230) drcX5_turns_0 33 rfl rfl
theorem dX5_turns_36 : decode cX5_turns 36 = .ok (.pop, 1) := dec_87 (gB drcX5_turns_0 36 rfl rfl)
theorem dX5_turns_37 : decode cX5_turns 37 = .ok (.iinc 4 1, 3) := e_132 (x := 4) (y := 1) drcX5_turns_0 37 rfl rfl
theorem dX5_turns_40 : decode cX5_turns 40 = .ok (.goto (-23), 3) := e_167 (x := 255) (y := 233) drcX5_turns_0 40 rfl rfl
theorem dX5_turns_43 : decode cX5_turns 43 = .ok (.aload_n 3, 1) := dec_45 (gB drcX5_turns_0 43 rfl rfl)
theorem dX5_turns_44 : decode cX5_turns 44 = .ok (.invokevirtual 234, 3) := e_182 (x := 0) (y := 234) drcX5_turns_0 44 rfl rfl
theorem dX5_turns_47 : decode cX5_turns 47 = .ok (.areturn, 1) := dec_176 (gB drcX5_turns_0 47 rfl rfl)
def lkcX5_grown_0 : List UInt8 := [0x2a, 0x1b, 0xb6, 0x00, 0x8c, 0x1c, 0xb6, 0x00, 0xee, 0xb8, 0x00, 0xbb, 0xb0]
def tkcX5_grown_0 : List UInt8 := lkcX5_grown_0 ++ []
theorem drcX5_grown_0 : (cX5_grown).data.toList.drop 0 = lkcX5_grown_0 ++ [] := by decide +kernel
theorem dX5_grown_0 : decode cX5_grown 0 = .ok (.aload_n 0, 1) := dec_42 (gB drcX5_grown_0 0 rfl rfl)
theorem dX5_grown_1 : decode cX5_grown 1 = .ok (.iload_n 1, 1) := dec_27 (gB drcX5_grown_0 1 rfl rfl)
theorem dX5_grown_2 : decode cX5_grown 2 = .ok (.invokevirtual 140, 3) := e_182 (x := 0) (y := 140) drcX5_grown_0 2 rfl rfl
theorem dX5_grown_5 : decode cX5_grown 5 = .ok (.iload_n 2, 1) := dec_28 (gB drcX5_grown_0 5 rfl rfl)
theorem dX5_grown_6 : decode cX5_grown 6 = .ok (.invokevirtual 238, 3) := e_182 (x := 0) (y := 238) drcX5_grown_0 6 rfl rfl
theorem dX5_grown_9 : decode cX5_grown 9 = .ok (.invokestatic 187, 3) := e_184 (x := 0) (y := 187) drcX5_grown_0 9 rfl rfl
theorem dX5_grown_12 : decode cX5_grown 12 = .ok (.areturn, 1) := dec_176 (gB drcX5_grown_0 12 rfl rfl)
def lkcX5_size_0 : List UInt8 := [0x2a, 0x1b, 0xb6, 0x00, 0x8c, 0x1c, 0xb6, 0x00, 0xee, 0xb4, 0x00, 0x32, 0xac]
def tkcX5_size_0 : List UInt8 := lkcX5_size_0 ++ []
theorem drcX5_size_0 : (cX5_size).data.toList.drop 0 = lkcX5_size_0 ++ [] := by decide +kernel
theorem dX5_size_0 : decode cX5_size 0 = .ok (.aload_n 0, 1) := dec_42 (gB drcX5_size_0 0 rfl rfl)
theorem dX5_size_1 : decode cX5_size 1 = .ok (.iload_n 1, 1) := dec_27 (gB drcX5_size_0 1 rfl rfl)
theorem dX5_size_2 : decode cX5_size 2 = .ok (.invokevirtual 140, 3) := e_182 (x := 0) (y := 140) drcX5_size_0 2 rfl rfl
theorem dX5_size_5 : decode cX5_size 5 = .ok (.iload_n 2, 1) := dec_28 (gB drcX5_size_0 5 rfl rfl)
theorem dX5_size_6 : decode cX5_size 6 = .ok (.invokevirtual 238, 3) := e_182 (x := 0) (y := 238) drcX5_size_0 6 rfl rfl
theorem dX5_size_9 : decode cX5_size 9 = .ok (.getfield 50, 3) := e_180 (x := 0) (y := 50) drcX5_size_0 9 rfl rfl
theorem dX5_size_12 : decode cX5_size 12 = .ok (.ireturn, 1) := dec_172 (gB drcX5_size_0 12 rfl rfl)
def lkcX5_ups_0 : List UInt8 := [0x2a, 0x1b, 0xb6, 0x00, 0x8c, 0x1c, 0xb6, 0x00, 0xee, 0xb8, 0x00, 0x6c, 0xac]
def tkcX5_ups_0 : List UInt8 := lkcX5_ups_0 ++ []
theorem drcX5_ups_0 : (cX5_ups).data.toList.drop 0 = lkcX5_ups_0 ++ [] := by decide +kernel
theorem dX5_ups_0 : decode cX5_ups 0 = .ok (.aload_n 0, 1) := dec_42 (gB drcX5_ups_0 0 rfl rfl)
theorem dX5_ups_1 : decode cX5_ups 1 = .ok (.iload_n 1, 1) := dec_27 (gB drcX5_ups_0 1 rfl rfl)
theorem dX5_ups_2 : decode cX5_ups 2 = .ok (.invokevirtual 140, 3) := e_182 (x := 0) (y := 140) drcX5_ups_0 2 rfl rfl
theorem dX5_ups_5 : decode cX5_ups 5 = .ok (.iload_n 2, 1) := dec_28 (gB drcX5_ups_0 5 rfl rfl)
theorem dX5_ups_6 : decode cX5_ups 6 = .ok (.invokevirtual 238, 3) := e_182 (x := 0) (y := 238) drcX5_ups_0 6 rfl rfl
theorem dX5_ups_9 : decode cX5_ups 9 = .ok (.invokestatic 108, 3) := e_184 (x := 0) (y := 108) drcX5_ups_0 9 rfl rfl
theorem dX5_ups_12 : decode cX5_ups 12 = .ok (.ireturn, 1) := dec_172 (gB drcX5_ups_0 12 rfl rfl)
def lkcX5_cross_0 : List UInt8 := [0x2a, 0x1b, 0xb6, 0x00, 0x8c, 0x4d, 0x2c, 0xb4, 0x00, 0x90, 0xb4, 0x00, 0x32, 0x2c, 0xb4, 0x00, 0xf2, 0xb8, 0x00, 0x6c, 0x68, 0x2c, 0xb4, 0x00, 0xf2, 0xb4, 0x00, 0x32, 0x2c, 0xb4, 0x00, 0x90, 0xb8, 0x00, 0x6c, 0x68, 0x64, 0xac]
def tkcX5_cross_0 : List UInt8 := lkcX5_cross_0 ++ []
theorem drcX5_cross_0 : (cX5_cross).data.toList.drop 0 = lkcX5_cross_0 ++ [] := by decide +kernel
theorem dX5_cross_0 : decode cX5_cross 0 = .ok (.aload_n 0, 1) := dec_42 (gB drcX5_cross_0 0 rfl rfl)
theorem dX5_cross_1 : decode cX5_cross 1 = .ok (.iload_n 1, 1) := dec_27 (gB drcX5_cross_0 1 rfl rfl)
theorem dX5_cross_2 : decode cX5_cross 2 = .ok (.invokevirtual 140, 3) := e_182 (x := 0) (y := 140) drcX5_cross_0 2 rfl rfl
theorem dX5_cross_5 : decode cX5_cross 5 = .ok (.astore_n 2, 1) := dec_77 (gB drcX5_cross_0 5 rfl rfl)
theorem dX5_cross_6 : decode cX5_cross 6 = .ok (.aload_n 2, 1) := dec_44 (gB drcX5_cross_0 6 rfl rfl)
theorem dX5_cross_7 : decode cX5_cross 7 = .ok (.getfield 144, 3) := e_180 (x := 0) (y := 144) drcX5_cross_0 7 rfl rfl
theorem dX5_cross_10 : decode cX5_cross 10 = .ok (.getfield 50, 3) := e_180 (x := 0) (y := 50) drcX5_cross_0 10 rfl rfl
theorem dX5_cross_13 : decode cX5_cross 13 = .ok (.aload_n 2, 1) := dec_44 (gB drcX5_cross_0 13 rfl rfl)
theorem dX5_cross_14 : decode cX5_cross 14 = .ok (.getfield 242, 3) := e_180 (x := 0) (y := 242) drcX5_cross_0 14 rfl rfl
theorem dX5_cross_17 : decode cX5_cross 17 = .ok (.invokestatic 108, 3) := e_184 (x := 0) (y := 108) drcX5_cross_0 17 rfl rfl
theorem dX5_cross_20 : decode cX5_cross 20 = .ok (.imul, 1) := dec_104 (gB drcX5_cross_0 20 rfl rfl)
theorem dX5_cross_21 : decode cX5_cross 21 = .ok (.aload_n 2, 1) := dec_44 (gB drcX5_cross_0 21 rfl rfl)
theorem dX5_cross_22 : decode cX5_cross 22 = .ok (.getfield 242, 3) := e_180 (x := 0) (y := 242) drcX5_cross_0 22 rfl rfl
theorem dX5_cross_25 : decode cX5_cross 25 = .ok (.getfield 50, 3) := e_180 (x := 0) (y := 50) drcX5_cross_0 25 rfl rfl
theorem dX5_cross_28 : decode cX5_cross 28 = .ok (.aload_n 2, 1) := dec_44 (gB drcX5_cross_0 28 rfl rfl)
theorem dX5_cross_29 : decode cX5_cross 29 = .ok (.getfield 144, 3) := e_180 (x := 0) (y := 144) drcX5_cross_0 29 rfl rfl
theorem dX5_cross_32 : decode cX5_cross 32 = .ok (.invokestatic 108, 3) := e_184 (x := 0) (y := 108) drcX5_cross_0 32 rfl rfl
theorem dX5_cross_35 : decode cX5_cross 35 = .ok (.imul, 1) := dec_104 (gB drcX5_cross_0 35 rfl rfl)
theorem dX5_cross_36 : decode cX5_cross 36 = .ok (.isub, 1) := dec_100 (gB drcX5_cross_0 36 rfl rfl)
theorem dX5_cross_37 : decode cX5_cross 37 = .ok (.ireturn, 1) := dec_172 (gB drcX5_cross_0 37 rfl rfl)
def lkcX5_alike_0 : List UInt8 := [0x2a, 0x1b, 0xb6, 0x00, 0x8c, 0x4d, 0x2c, 0xb4, 0x00, 0x90, 0x2c, 0xb4, 0x00, 0xf2, 0xb8, 0x00, 0xf5, 0xac]
def tkcX5_alike_0 : List UInt8 := lkcX5_alike_0 ++ []
theorem drcX5_alike_0 : (cX5_alike).data.toList.drop 0 = lkcX5_alike_0 ++ [] := by decide +kernel
theorem dX5_alike_0 : decode cX5_alike 0 = .ok (.aload_n 0, 1) := dec_42 (gB drcX5_alike_0 0 rfl rfl)
theorem dX5_alike_1 : decode cX5_alike 1 = .ok (.iload_n 1, 1) := dec_27 (gB drcX5_alike_0 1 rfl rfl)
theorem dX5_alike_2 : decode cX5_alike 2 = .ok (.invokevirtual 140, 3) := e_182 (x := 0) (y := 140) drcX5_alike_0 2 rfl rfl
theorem dX5_alike_5 : decode cX5_alike 5 = .ok (.astore_n 2, 1) := dec_77 (gB drcX5_alike_0 5 rfl rfl)
theorem dX5_alike_6 : decode cX5_alike 6 = .ok (.aload_n 2, 1) := dec_44 (gB drcX5_alike_0 6 rfl rfl)
theorem dX5_alike_7 : decode cX5_alike 7 = .ok (.getfield 144, 3) := e_180 (x := 0) (y := 144) drcX5_alike_0 7 rfl rfl
theorem dX5_alike_10 : decode cX5_alike 10 = .ok (.aload_n 2, 1) := dec_44 (gB drcX5_alike_0 10 rfl rfl)
theorem dX5_alike_11 : decode cX5_alike 11 = .ok (.getfield 242, 3) := e_180 (x := 0) (y := 242) drcX5_alike_0 11 rfl rfl
theorem dX5_alike_14 : decode cX5_alike 14 = .ok (.invokestatic 245, 3) := e_184 (x := 0) (y := 245) drcX5_alike_0 14 rfl rfl
theorem dX5_alike_17 : decode cX5_alike 17 = .ok (.ireturn, 1) := dec_172 (gB drcX5_alike_0 17 rfl rfl)
def lkcX5_house_0 : List UInt8 := [0x1b, 0x9b, 0x00, 0x0c, 0x1b, 0x06, 0xa3, 0x00, 0x07, 0x04, 0xa7, 0x00, 0x04, 0x03, 0xb8, 0x00, 0x2a, 0x1b, 0x9a, 0x00, 0x08, 0x2a, 0xb4, 0x00, 0xf8, 0xac, 0x1b, 0x04, 0xa0, 0x00, 0x08, 0x2a, 0xb4, 0x00, 0xfb, 0xac, 0x1b, 0x05, 0xa0, 0x00, 0x0a, 0x2a, 0xb4, 0x00, 0xfe, 0xa7, 0x00, 0x07, 0x2a, 0xb4, 0x01, 0x01, 0xac]
def tkcX5_house_0 : List UInt8 := lkcX5_house_0 ++ []
theorem drcX5_house_0 : (cX5_house).data.toList.drop 0 = lkcX5_house_0 ++ [] := by decide +kernel
theorem dX5_house_0 : decode cX5_house 0 = .ok (.iload_n 1, 1) := dec_27 (gB drcX5_house_0 0 rfl rfl)
theorem dX5_house_1 : decode cX5_house 1 = .ok (.ifCond .lt 12, 3) := e_155 (x := 0) (y := 12) drcX5_house_0 1 rfl rfl
theorem dX5_house_4 : decode cX5_house 4 = .ok (.iload_n 1, 1) := dec_27 (gB drcX5_house_0 4 rfl rfl)
theorem dX5_house_5 : decode cX5_house 5 = .ok (.iconst 3, 1) := dec_6 (gB drcX5_house_0 5 rfl rfl)
theorem dX5_house_6 : decode cX5_house 6 = .ok (.if_icmp .gt 7, 3) := e_163 (x := 0) (y := 7) drcX5_house_0 6 rfl rfl
theorem dX5_house_9 : decode cX5_house 9 = .ok (.iconst 1, 1) := dec_4 (gB drcX5_house_0 9 rfl rfl)
theorem dX5_house_10 : decode cX5_house 10 = .ok (.goto 4, 3) := e_167 (x := 0) (y := 4) drcX5_house_0 10 rfl rfl
theorem dX5_house_13 : decode cX5_house 13 = .ok (.iconst 0, 1) := dec_3 (gB drcX5_house_0 13 rfl rfl)
theorem dX5_house_14 : decode cX5_house 14 = .ok (.invokestatic 42, 3) := e_184 (x := 0) (y := 42) drcX5_house_0 14 rfl rfl
theorem dX5_house_17 : decode cX5_house 17 = .ok (.iload_n 1, 1) := dec_27 (gB drcX5_house_0 17 rfl rfl)
theorem dX5_house_18 : decode cX5_house 18 = .ok (.ifCond .ne 8, 3) := e_154 (x := 0) (y := 8) drcX5_house_0 18 rfl rfl
theorem dX5_house_21 : decode cX5_house 21 = .ok (.aload_n 0, 1) := dec_42 (gB drcX5_house_0 21 rfl rfl)
theorem dX5_house_22 : decode cX5_house 22 = .ok (.getfield 248, 3) := e_180 (x := 0) (y := 248) drcX5_house_0 22 rfl rfl
theorem dX5_house_25 : decode cX5_house 25 = .ok (.ireturn, 1) := dec_172 (gB drcX5_house_0 25 rfl rfl)
theorem dX5_house_26 : decode cX5_house 26 = .ok (.iload_n 1, 1) := dec_27 (gB drcX5_house_0 26 rfl rfl)
theorem dX5_house_27 : decode cX5_house 27 = .ok (.iconst 1, 1) := dec_4 (gB drcX5_house_0 27 rfl rfl)
theorem dX5_house_28 : decode cX5_house 28 = .ok (.if_icmp .ne 8, 3) := e_160 (x := 0) (y := 8) drcX5_house_0 28 rfl rfl
theorem dX5_house_31 : decode cX5_house 31 = .ok (.aload_n 0, 1) := dec_42 (gB drcX5_house_0 31 rfl rfl)
theorem dX5_house_32 : decode cX5_house 32 = .ok (.getfield 251, 3) := e_180 (x := 0) (y := 251) drcX5_house_0 32 rfl rfl
theorem dX5_house_35 : decode cX5_house 35 = .ok (.ireturn, 1) := dec_172 (gB drcX5_house_0 35 rfl rfl)
theorem dX5_house_36 : decode cX5_house 36 = .ok (.iload_n 1, 1) := dec_27 (gB drcX5_house_0 36 rfl rfl)
theorem dX5_house_37 : decode cX5_house 37 = .ok (.iconst 2, 1) := dec_5 (gB drcX5_house_0 37 rfl rfl)
theorem dX5_house_38 : decode cX5_house 38 = .ok (.if_icmp .ne 10, 3) := e_160 (x := 0) (y := 10) drcX5_house_0 38 rfl rfl
theorem dX5_house_41 : decode cX5_house 41 = .ok (.aload_n 0, 1) := dec_42 (gB drcX5_house_0 41 rfl rfl)
theorem dX5_house_42 : decode cX5_house 42 = .ok (.getfield 254, 3) := e_180 (x := 0) (y := 254) drcX5_house_0 42 rfl rfl
theorem dX5_house_45 : decode cX5_house 45 = .ok (.goto 7, 3) := e_167 (x := 0) (y := 7) drcX5_house_0 45 rfl rfl
theorem dX5_house_48 : decode cX5_house 48 = .ok (.aload_n 0, 1) := dec_42 (gB drcX5_house_0 48 rfl rfl)
theorem dX5_house_49 : decode cX5_house 49 = .ok (.getfield 257, 3) := e_180 (x := 1) (y := 1) drcX5_house_0 49 rfl rfl
theorem dX5_house_52 : decode cX5_house 52 = .ok (.ireturn, 1) := dec_172 (gB drcX5_house_0 52 rfl rfl)
def lkcX5_knock_0 : List UInt8 := [0x2a, 0x59, 0xb4, 0x01, 0x01, 0x04, 0x60, 0xb5, 0x01, 0x01, 0x2a, 0xb4, 0x01, 0x01, 0xac]
def tkcX5_knock_0 : List UInt8 := lkcX5_knock_0 ++ []
theorem drcX5_knock_0 : (cX5_knock).data.toList.drop 0 = lkcX5_knock_0 ++ [] := by decide +kernel
theorem dX5_knock_0 : decode cX5_knock 0 = .ok (.aload_n 0, 1) := dec_42 (gB drcX5_knock_0 0 rfl rfl)
theorem dX5_knock_1 : decode cX5_knock 1 = .ok (.dup, 1) := dec_89 (gB drcX5_knock_0 1 rfl rfl)
theorem dX5_knock_2 : decode cX5_knock 2 = .ok (.getfield 257, 3) := e_180 (x := 1) (y := 1) drcX5_knock_0 2 rfl rfl
theorem dX5_knock_5 : decode cX5_knock 5 = .ok (.iconst 1, 1) := dec_4 (gB drcX5_knock_0 5 rfl rfl)
theorem dX5_knock_6 : decode cX5_knock 6 = .ok (.iadd, 1) := dec_96 (gB drcX5_knock_0 6 rfl rfl)
theorem dX5_knock_7 : decode cX5_knock 7 = .ok (.putfield 257, 3) := e_181 (x := 1) (y := 1) drcX5_knock_0 7 rfl rfl
theorem dX5_knock_10 : decode cX5_knock 10 = .ok (.aload_n 0, 1) := dec_42 (gB drcX5_knock_0 10 rfl rfl)
theorem dX5_knock_11 : decode cX5_knock 11 = .ok (.getfield 257, 3) := e_180 (x := 1) (y := 1) drcX5_knock_0 11 rfl rfl
theorem dX5_knock_14 : decode cX5_knock 14 = .ok (.ireturn, 1) := dec_172 (gB drcX5_knock_0 14 rfl rfl)
def lkcX5_isSound_0 : List UInt8 := [0x03, 0x3c, 0x1b, 0x06, 0xa2, 0x00, 0x13, 0x2a, 0x1b, 0xb6, 0x01, 0x04, 0x9a, 0x00, 0x05, 0x03, 0xac, 0x84, 0x01, 0x01, 0xa7, 0xff, 0xee, 0x03, 0x3c, 0x1b, 0x05, 0xa2, 0x00, 0x13, 0x2a, 0x1b, 0xb6, 0x01, 0x07, 0x9a, 0x00, 0x05, 0x03, 0xac, 0x84, 0x01, 0x01, 0xa7, 0xff, 0xee, 0x04, 0xac]
def tkcX5_isSound_0 : List UInt8 := lkcX5_isSound_0 ++ []
theorem drcX5_isSound_0 : (cX5_isSound).data.toList.drop 0 = lkcX5_isSound_0 ++ [] := by decide +kernel
theorem dX5_isSound_0 : decode cX5_isSound 0 = .ok (.iconst 0, 1) := dec_3 (gB drcX5_isSound_0 0 rfl rfl)
theorem dX5_isSound_1 : decode cX5_isSound 1 = .ok (.istore_n 1, 1) := dec_60 (gB drcX5_isSound_0 1 rfl rfl)
theorem dX5_isSound_2 : decode cX5_isSound 2 = .ok (.iload_n 1, 1) := dec_27 (gB drcX5_isSound_0 2 rfl rfl)
theorem dX5_isSound_3 : decode cX5_isSound 3 = .ok (.iconst 3, 1) := dec_6 (gB drcX5_isSound_0 3 rfl rfl)
theorem dX5_isSound_4 : decode cX5_isSound 4 = .ok (.if_icmp .ge 19, 3) := e_162 (x := 0) (y := 19) drcX5_isSound_0 4 rfl rfl
theorem dX5_isSound_7 : decode cX5_isSound 7 = .ok (.aload_n 0, 1) := dec_42 (gB drcX5_isSound_0 7 rfl rfl)
theorem dX5_isSound_8 : decode cX5_isSound 8 = .ok (.iload_n 1, 1) := dec_27 (gB drcX5_isSound_0 8 rfl rfl)
theorem dX5_isSound_9 : decode cX5_isSound 9 = .ok (.invokevirtual 260, 3) := e_182 (x := 1) (y := 4) drcX5_isSound_0 9 rfl rfl
theorem dX5_isSound_12 : decode cX5_isSound 12 = .ok (.ifCond .ne 5, 3) := e_154 (x := 0) (y := 5) drcX5_isSound_0 12 rfl rfl
theorem dX5_isSound_15 : decode cX5_isSound 15 = .ok (.iconst 0, 1) := dec_3 (gB drcX5_isSound_0 15 rfl rfl)
theorem dX5_isSound_16 : decode cX5_isSound 16 = .ok (.ireturn, 1) := dec_172 (gB drcX5_isSound_0 16 rfl rfl)
theorem dX5_isSound_17 : decode cX5_isSound 17 = .ok (.iinc 1 1, 3) := e_132 (x := 1) (y := 1) drcX5_isSound_0 17 rfl rfl
theorem dX5_isSound_20 : decode cX5_isSound 20 = .ok (.goto (-18), 3) := e_167 (x := 255) (y := 238) drcX5_isSound_0 20 rfl rfl
theorem dX5_isSound_23 : decode cX5_isSound 23 = .ok (.iconst 0, 1) := dec_3 (gB drcX5_isSound_0 23 rfl rfl)
theorem dX5_isSound_24 : decode cX5_isSound 24 = .ok (.istore_n 1, 1) := dec_60 (gB drcX5_isSound_0 24 rfl rfl)
theorem dX5_isSound_25 : decode cX5_isSound 25 = .ok (.iload_n 1, 1) := dec_27 (gB drcX5_isSound_0 25 rfl rfl)
theorem dX5_isSound_26 : decode cX5_isSound 26 = .ok (.iconst 2, 1) := dec_5 (gB drcX5_isSound_0 26 rfl rfl)
theorem dX5_isSound_27 : decode cX5_isSound 27 = .ok (.if_icmp .ge 19, 3) := e_162 (x := 0) (y := 19) drcX5_isSound_0 27 rfl rfl
theorem dX5_isSound_30 : decode cX5_isSound 30 = .ok (.aload_n 0, 1) := dec_42 (gB drcX5_isSound_0 30 rfl rfl)
theorem dX5_isSound_31 : decode cX5_isSound 31 = .ok (.iload_n 1, 1) := dec_27 (gB drcX5_isSound_0 31 rfl rfl)
theorem dX5_isSound_32 : decode cX5_isSound 32 = .ok (.invokevirtual 263, 3) := e_182 (x := 1) (y := 7) drcX5_isSound_0 32 rfl rfl
theorem dX5_isSound_35 : decode cX5_isSound 35 = .ok (.ifCond .ne 5, 3) := e_154 (x := 0) (y := 5) drcX5_isSound_0 35 rfl rfl
theorem dX5_isSound_38 : decode cX5_isSound 38 = .ok (.iconst 0, 1) := dec_3 (gB drcX5_isSound_0 38 rfl rfl)
theorem dX5_isSound_39 : decode cX5_isSound 39 = .ok (.ireturn, 1) := dec_172 (gB drcX5_isSound_0 39 rfl rfl)
theorem dX5_isSound_40 : decode cX5_isSound 40 = .ok (.iinc 1 1, 3) := e_132 (x := 1) (y := 1) drcX5_isSound_0 40 rfl rfl
theorem dX5_isSound_43 : decode cX5_isSound 43 = .ok (.goto (-18), 3) := e_167 (x := 255) (y := 238) drcX5_isSound_0 43 rfl rfl
theorem dX5_isSound_46 : decode cX5_isSound 46 = .ok (.iconst 1, 1) := dec_4 (gB drcX5_isSound_0 46 rfl rfl)
theorem dX5_isSound_47 : decode cX5_isSound 47 = .ok (.ireturn, 1) := dec_172 (gB drcX5_isSound_0 47 rfl rfl)
def lkcX5_digest_0 : List UInt8 := [0x14, 0x01, 0x0a, 0x40, 0x03, 0x3e, 0x1d, 0x06, 0xa2, 0x00, 0x10, 0x2a, 0x1f, 0x1d, 0xb6, 0x01, 0x0c, 0x40, 0x84, 0x03, 0x01, 0xa7, 0xff, 0xf1, 0x03, 0x3e, 0x1d, 0x05, 0xa2, 0x00, 0x10, 0x2a, 0x1f, 0x1d, 0xb6, 0x01, 0x10, 0x40, 0x84, 0x03, 0x01, 0xa7, 0xff, 0xf1, 0x03, 0x3e, 0x1d, 0x06, 0xa3, 0x00, 0x14, 0x1f, 0x2a, 0x1d, 0xb6, 0x01, 0x13, 0x85, 0xb8, 0x01, 0x16, 0x40, 0x84, 0x03]
def lkcX5_digest_1 : List UInt8 := [0x01, 0xa7, 0xff, 0xed, 0x1f, 0x2a, 0xb6, 0x01, 0x1a, 0xb8, 0x00, 0x4f, 0x85, 0xb8, 0x01, 0x16, 0xad]
def tkcX5_digest_1 : List UInt8 := lkcX5_digest_1 ++ []
def tkcX5_digest_0 : List UInt8 := lkcX5_digest_0 ++ tkcX5_digest_1
theorem drcX5_digest_0 : (cX5_digest).data.toList.drop 0 = lkcX5_digest_0 ++ tkcX5_digest_1 := by decide +kernel
theorem drcX5_digest_1 : (cX5_digest).data.toList.drop 64 = lkcX5_digest_1 ++ [] := dr_step drcX5_digest_0 rfl
theorem dX5_digest_0 : decode cX5_digest 0 = .ok (.ldc2_w 266, 3) := e_20 (x := 1) (y := 10) drcX5_digest_0 0 rfl rfl
theorem dX5_digest_3 : decode cX5_digest 3 = .ok (.lstore_n 1, 1) := dec_64 (gB drcX5_digest_0 3 rfl rfl)
theorem dX5_digest_4 : decode cX5_digest 4 = .ok (.iconst 0, 1) := dec_3 (gB drcX5_digest_0 4 rfl rfl)
theorem dX5_digest_5 : decode cX5_digest 5 = .ok (.istore_n 3, 1) := dec_62 (gB drcX5_digest_0 5 rfl rfl)
theorem dX5_digest_6 : decode cX5_digest 6 = .ok (.iload_n 3, 1) := dec_29 (gB drcX5_digest_0 6 rfl rfl)
theorem dX5_digest_7 : decode cX5_digest 7 = .ok (.iconst 3, 1) := dec_6 (gB drcX5_digest_0 7 rfl rfl)
theorem dX5_digest_8 : decode cX5_digest 8 = .ok (.if_icmp .ge 16, 3) := e_162 (x := 0) (y := 16) drcX5_digest_0 8 rfl rfl
theorem dX5_digest_11 : decode cX5_digest 11 = .ok (.aload_n 0, 1) := dec_42 (gB drcX5_digest_0 11 rfl rfl)
theorem dX5_digest_12 : decode cX5_digest 12 = .ok (.lload_n 1, 1) := dec_31 (gB drcX5_digest_0 12 rfl rfl)
theorem dX5_digest_13 : decode cX5_digest 13 = .ok (.iload_n 3, 1) := dec_29 (gB drcX5_digest_0 13 rfl rfl)
theorem dX5_digest_14 : decode cX5_digest 14 = .ok (.invokevirtual 268, 3) := e_182 (x := 1) (y := 12) drcX5_digest_0 14 rfl rfl
theorem dX5_digest_17 : decode cX5_digest 17 = .ok (.lstore_n 1, 1) := dec_64 (gB drcX5_digest_0 17 rfl rfl)
theorem dX5_digest_18 : decode cX5_digest 18 = .ok (.iinc 3 1, 3) := e_132 (x := 3) (y := 1) drcX5_digest_0 18 rfl rfl
theorem dX5_digest_21 : decode cX5_digest 21 = .ok (.goto (-15), 3) := e_167 (x := 255) (y := 241) drcX5_digest_0 21 rfl rfl
theorem dX5_digest_24 : decode cX5_digest 24 = .ok (.iconst 0, 1) := dec_3 (gB drcX5_digest_0 24 rfl rfl)
theorem dX5_digest_25 : decode cX5_digest 25 = .ok (.istore_n 3, 1) := dec_62 (gB drcX5_digest_0 25 rfl rfl)
theorem dX5_digest_26 : decode cX5_digest 26 = .ok (.iload_n 3, 1) := dec_29 (gB drcX5_digest_0 26 rfl rfl)
theorem dX5_digest_27 : decode cX5_digest 27 = .ok (.iconst 2, 1) := dec_5 (gB drcX5_digest_0 27 rfl rfl)
theorem dX5_digest_28 : decode cX5_digest 28 = .ok (.if_icmp .ge 16, 3) := e_162 (x := 0) (y := 16) drcX5_digest_0 28 rfl rfl
theorem dX5_digest_31 : decode cX5_digest 31 = .ok (.aload_n 0, 1) := dec_42 (gB drcX5_digest_0 31 rfl rfl)
theorem dX5_digest_32 : decode cX5_digest 32 = .ok (.lload_n 1, 1) := dec_31 (gB drcX5_digest_0 32 rfl rfl)
theorem dX5_digest_33 : decode cX5_digest 33 = .ok (.iload_n 3, 1) := dec_29 (gB drcX5_digest_0 33 rfl rfl)
theorem dX5_digest_34 : decode cX5_digest 34 = .ok (.invokevirtual 272, 3) := e_182 (x := 1) (y := 16) drcX5_digest_0 34 rfl rfl
theorem dX5_digest_37 : decode cX5_digest 37 = .ok (.lstore_n 1, 1) := dec_64 (gB drcX5_digest_0 37 rfl rfl)
theorem dX5_digest_38 : decode cX5_digest 38 = .ok (.iinc 3 1, 3) := e_132 (x := 3) (y := 1) drcX5_digest_0 38 rfl rfl
theorem dX5_digest_41 : decode cX5_digest 41 = .ok (.goto (-15), 3) := e_167 (x := 255) (y := 241) drcX5_digest_0 41 rfl rfl
theorem dX5_digest_44 : decode cX5_digest 44 = .ok (.iconst 0, 1) := dec_3 (gB drcX5_digest_0 44 rfl rfl)
theorem dX5_digest_45 : decode cX5_digest 45 = .ok (.istore_n 3, 1) := dec_62 (gB drcX5_digest_0 45 rfl rfl)
theorem dX5_digest_46 : decode cX5_digest 46 = .ok (.iload_n 3, 1) := dec_29 (gB drcX5_digest_0 46 rfl rfl)
theorem dX5_digest_47 : decode cX5_digest 47 = .ok (.iconst 3, 1) := dec_6 (gB drcX5_digest_0 47 rfl rfl)
theorem dX5_digest_48 : decode cX5_digest 48 = .ok (.if_icmp .gt 20, 3) := e_163 (x := 0) (y := 20) drcX5_digest_0 48 rfl rfl
theorem dX5_digest_51 : decode cX5_digest 51 = .ok (.lload_n 1, 1) := dec_31 (gB drcX5_digest_0 51 rfl rfl)
theorem dX5_digest_52 : decode cX5_digest 52 = .ok (.aload_n 0, 1) := dec_42 (gB drcX5_digest_0 52 rfl rfl)
theorem dX5_digest_53 : decode cX5_digest 53 = .ok (.iload_n 3, 1) := dec_29 (gB drcX5_digest_0 53 rfl rfl)
theorem dX5_digest_54 : decode cX5_digest 54 = .ok (.invokevirtual 275, 3) := e_182 (x := 1) (y := 19) drcX5_digest_0 54 rfl rfl
theorem dX5_digest_57 : decode cX5_digest 57 = .ok (.i2l, 1) := dec_133 (gB drcX5_digest_0 57 rfl rfl)
theorem dX5_digest_58 : decode cX5_digest 58 = .ok (.invokestatic 278, 3) := e_184 (x := 1) (y := 22) drcX5_digest_0 58 rfl rfl
theorem dX5_digest_61 : decode cX5_digest 61 = .ok (.lstore_n 1, 1) := dec_64 (gB drcX5_digest_0 61 rfl rfl)
theorem dX5_digest_62 : decode cX5_digest 62 = .ok (.iinc 3 1, 3) := dec_132 (a := 3) (b := 1) (gB drcX5_digest_0 62 rfl rfl) (gB drcX5_digest_0 63 rfl rfl) (gB drcX5_digest_1 0 rfl rfl)
theorem dX5_digest_65 : decode cX5_digest 65 = .ok (.goto (-19), 3) := e_167 (x := 255) (y := 237) drcX5_digest_1 1 rfl rfl
theorem dX5_digest_68 : decode cX5_digest 68 = .ok (.lload_n 1, 1) := dec_31 (gB drcX5_digest_1 4 rfl rfl)
theorem dX5_digest_69 : decode cX5_digest 69 = .ok (.aload_n 0, 1) := dec_42 (gB drcX5_digest_1 5 rfl rfl)
theorem dX5_digest_70 : decode cX5_digest 70 = .ok (.invokevirtual 282, 3) := e_182 (x := 1) (y := 26) drcX5_digest_1 6 rfl rfl
theorem dX5_digest_73 : decode cX5_digest 73 = .ok (.invokestatic 79, 3) := e_184 (x := 0) (y := 79) drcX5_digest_1 9 rfl rfl
theorem dX5_digest_76 : decode cX5_digest 76 = .ok (.i2l, 1) := dec_133 (gB drcX5_digest_1 12 rfl rfl)
theorem dX5_digest_77 : decode cX5_digest 77 = .ok (.invokestatic 278, 3) := e_184 (x := 1) (y := 22) drcX5_digest_1 13 rfl rfl
theorem dX5_digest_80 : decode cX5_digest 80 = .ok (.lreturn, 1) := dec_173 (gB drcX5_digest_1 16 rfl rfl)
def lkcX5_wordOf_0 : List UInt8 := [0x1b, 0x9b, 0x00, 0x0c, 0x1b, 0x2a, 0xb4, 0x00, 0x0b, 0xbe, 0xa1, 0x00, 0x0e, 0xbb, 0x01, 0x1d, 0x59, 0x13, 0x01, 0x1f, 0xb7, 0x01, 0x21, 0xbf, 0x2a, 0xb4, 0x00, 0x0b, 0x1b, 0x32, 0xb0]
def tkcX5_wordOf_0 : List UInt8 := lkcX5_wordOf_0 ++ []
theorem drcX5_wordOf_0 : (cX5_wordOf).data.toList.drop 0 = lkcX5_wordOf_0 ++ [] := by decide +kernel
theorem dX5_wordOf_0 : decode cX5_wordOf 0 = .ok (.iload_n 1, 1) := dec_27 (gB drcX5_wordOf_0 0 rfl rfl)
theorem dX5_wordOf_1 : decode cX5_wordOf 1 = .ok (.ifCond .lt 12, 3) := e_155 (x := 0) (y := 12) drcX5_wordOf_0 1 rfl rfl
theorem dX5_wordOf_4 : decode cX5_wordOf 4 = .ok (.iload_n 1, 1) := dec_27 (gB drcX5_wordOf_0 4 rfl rfl)
theorem dX5_wordOf_5 : decode cX5_wordOf 5 = .ok (.aload_n 0, 1) := dec_42 (gB drcX5_wordOf_0 5 rfl rfl)
theorem dX5_wordOf_6 : decode cX5_wordOf 6 = .ok (.getfield 11, 3) := e_180 (x := 0) (y := 11) drcX5_wordOf_0 6 rfl rfl
theorem dX5_wordOf_9 : decode cX5_wordOf 9 = .ok (.arraylength, 1) := dec_190 (gB drcX5_wordOf_0 9 rfl rfl)
theorem dX5_wordOf_10 : decode cX5_wordOf 10 = .ok (.if_icmp .lt 14, 3) := e_161 (x := 0) (y := 14) drcX5_wordOf_0 10 rfl rfl
theorem dX5_wordOf_13 : decode cX5_wordOf 13 = .ok (.new 285, 3) := e_187 (x := 1) (y := 29) drcX5_wordOf_0 13 rfl rfl
theorem dX5_wordOf_16 : decode cX5_wordOf 16 = .ok (.dup, 1) := dec_89 (gB drcX5_wordOf_0 16 rfl rfl)
theorem dX5_wordOf_17 : decode cX5_wordOf 17 = .ok (.ldc_w 287, 3) := e_19 (x := 1) (y := 31) drcX5_wordOf_0 17 rfl rfl
theorem dX5_wordOf_20 : decode cX5_wordOf 20 = .ok (.invokespecial 289, 3) := e_183 (x := 1) (y := 33) drcX5_wordOf_0 20 rfl rfl
theorem dX5_wordOf_23 : decode cX5_wordOf 23 = .ok (.athrow, 1) := dec_191 (gB drcX5_wordOf_0 23 rfl rfl)
theorem dX5_wordOf_24 : decode cX5_wordOf 24 = .ok (.aload_n 0, 1) := dec_42 (gB drcX5_wordOf_0 24 rfl rfl)
theorem dX5_wordOf_25 : decode cX5_wordOf 25 = .ok (.getfield 11, 3) := e_180 (x := 0) (y := 11) drcX5_wordOf_0 25 rfl rfl
theorem dX5_wordOf_28 : decode cX5_wordOf 28 = .ok (.iload_n 1, 1) := dec_27 (gB drcX5_wordOf_0 28 rfl rfl)
theorem dX5_wordOf_29 : decode cX5_wordOf 29 = .ok (.aaload, 1) := dec_50 (gB drcX5_wordOf_0 29 rfl rfl)
theorem dX5_wordOf_30 : decode cX5_wordOf 30 = .ok (.areturn, 1) := dec_176 (gB drcX5_wordOf_0 30 rfl rfl)
def lkcX5_growthOf_0 : List UInt8 := [0x1b, 0x9b, 0x00, 0x0c, 0x1b, 0x2a, 0xb4, 0x00, 0x11, 0xbe, 0xa1, 0x00, 0x0e, 0xbb, 0x01, 0x1d, 0x59, 0x13, 0x01, 0x24, 0xb7, 0x01, 0x21, 0xbf, 0x2a, 0xb4, 0x00, 0x11, 0x1b, 0x32, 0xb0]
def tkcX5_growthOf_0 : List UInt8 := lkcX5_growthOf_0 ++ []
theorem drcX5_growthOf_0 : (cX5_growthOf).data.toList.drop 0 = lkcX5_growthOf_0 ++ [] := by decide +kernel
theorem dX5_growthOf_0 : decode cX5_growthOf 0 = .ok (.iload_n 1, 1) := dec_27 (gB drcX5_growthOf_0 0 rfl rfl)
theorem dX5_growthOf_1 : decode cX5_growthOf 1 = .ok (.ifCond .lt 12, 3) := e_155 (x := 0) (y := 12) drcX5_growthOf_0 1 rfl rfl
theorem dX5_growthOf_4 : decode cX5_growthOf 4 = .ok (.iload_n 1, 1) := dec_27 (gB drcX5_growthOf_0 4 rfl rfl)
theorem dX5_growthOf_5 : decode cX5_growthOf 5 = .ok (.aload_n 0, 1) := dec_42 (gB drcX5_growthOf_0 5 rfl rfl)
theorem dX5_growthOf_6 : decode cX5_growthOf 6 = .ok (.getfield 17, 3) := e_180 (x := 0) (y := 17) drcX5_growthOf_0 6 rfl rfl
theorem dX5_growthOf_9 : decode cX5_growthOf 9 = .ok (.arraylength, 1) := dec_190 (gB drcX5_growthOf_0 9 rfl rfl)
theorem dX5_growthOf_10 : decode cX5_growthOf 10 = .ok (.if_icmp .lt 14, 3) := e_161 (x := 0) (y := 14) drcX5_growthOf_0 10 rfl rfl
theorem dX5_growthOf_13 : decode cX5_growthOf 13 = .ok (.new 285, 3) := e_187 (x := 1) (y := 29) drcX5_growthOf_0 13 rfl rfl
theorem dX5_growthOf_16 : decode cX5_growthOf 16 = .ok (.dup, 1) := dec_89 (gB drcX5_growthOf_0 16 rfl rfl)
theorem dX5_growthOf_17 : decode cX5_growthOf 17 = .ok (.ldc_w 292, 3) := e_19 (x := 1) (y := 36) drcX5_growthOf_0 17 rfl rfl
theorem dX5_growthOf_20 : decode cX5_growthOf 20 = .ok (.invokespecial 289, 3) := e_183 (x := 1) (y := 33) drcX5_growthOf_0 20 rfl rfl
theorem dX5_growthOf_23 : decode cX5_growthOf 23 = .ok (.athrow, 1) := dec_191 (gB drcX5_growthOf_0 23 rfl rfl)
theorem dX5_growthOf_24 : decode cX5_growthOf 24 = .ok (.aload_n 0, 1) := dec_42 (gB drcX5_growthOf_0 24 rfl rfl)
theorem dX5_growthOf_25 : decode cX5_growthOf 25 = .ok (.getfield 17, 3) := e_180 (x := 0) (y := 17) drcX5_growthOf_0 25 rfl rfl
theorem dX5_growthOf_28 : decode cX5_growthOf 28 = .ok (.iload_n 1, 1) := dec_27 (gB drcX5_growthOf_0 28 rfl rfl)
theorem dX5_growthOf_29 : decode cX5_growthOf 29 = .ok (.aaload, 1) := dec_50 (gB drcX5_growthOf_0 29 rfl rfl)
theorem dX5_growthOf_30 : decode cX5_growthOf 30 = .ok (.areturn, 1) := dec_176 (gB drcX5_growthOf_0 30 rfl rfl)
def lkcX5_needIndex_0 : List UInt8 := [0x1a, 0x9a, 0x00, 0x0e, 0xbb, 0x01, 0x1d, 0x59, 0x13, 0x01, 0x26, 0xb7, 0x01, 0x21, 0xbf, 0xb1]
def tkcX5_needIndex_0 : List UInt8 := lkcX5_needIndex_0 ++ []
theorem drcX5_needIndex_0 : (cX5_needIndex).data.toList.drop 0 = lkcX5_needIndex_0 ++ [] := by decide +kernel
theorem dX5_needIndex_0 : decode cX5_needIndex 0 = .ok (.iload_n 0, 1) := dec_26 (gB drcX5_needIndex_0 0 rfl rfl)
theorem dX5_needIndex_1 : decode cX5_needIndex 1 = .ok (.ifCond .ne 14, 3) := e_154 (x := 0) (y := 14) drcX5_needIndex_0 1 rfl rfl
theorem dX5_needIndex_4 : decode cX5_needIndex 4 = .ok (.new 285, 3) := e_187 (x := 1) (y := 29) drcX5_needIndex_0 4 rfl rfl
theorem dX5_needIndex_7 : decode cX5_needIndex 7 = .ok (.dup, 1) := dec_89 (gB drcX5_needIndex_0 7 rfl rfl)
theorem dX5_needIndex_8 : decode cX5_needIndex 8 = .ok (.ldc_w 294, 3) := e_19 (x := 1) (y := 38) drcX5_needIndex_0 8 rfl rfl
theorem dX5_needIndex_11 : decode cX5_needIndex 11 = .ok (.invokespecial 289, 3) := e_183 (x := 1) (y := 33) drcX5_needIndex_0 11 rfl rfl
theorem dX5_needIndex_14 : decode cX5_needIndex 14 = .ok (.athrow, 1) := dec_191 (gB drcX5_needIndex_0 14 rfl rfl)
theorem dX5_needIndex_15 : decode cX5_needIndex 15 = .ok (.return_, 1) := dec_177 (gB drcX5_needIndex_0 15 rfl rfl)
def lkcX5_needArgument_0 : List UInt8 := [0x1a, 0x9a, 0x00, 0x0e, 0xbb, 0x01, 0x28, 0x59, 0x13, 0x01, 0x2a, 0xb7, 0x01, 0x2c, 0xbf, 0xb1]
def tkcX5_needArgument_0 : List UInt8 := lkcX5_needArgument_0 ++ []
theorem drcX5_needArgument_0 : (cX5_needArgument).data.toList.drop 0 = lkcX5_needArgument_0 ++ [] := by decide +kernel
theorem dX5_needArgument_0 : decode cX5_needArgument 0 = .ok (.iload_n 0, 1) := dec_26 (gB drcX5_needArgument_0 0 rfl rfl)
theorem dX5_needArgument_1 : decode cX5_needArgument 1 = .ok (.ifCond .ne 14, 3) := e_154 (x := 0) (y := 14) drcX5_needArgument_0 1 rfl rfl
theorem dX5_needArgument_4 : decode cX5_needArgument 4 = .ok (.new 296, 3) := e_187 (x := 1) (y := 40) drcX5_needArgument_0 4 rfl rfl
theorem dX5_needArgument_7 : decode cX5_needArgument 7 = .ok (.dup, 1) := dec_89 (gB drcX5_needArgument_0 7 rfl rfl)
theorem dX5_needArgument_8 : decode cX5_needArgument 8 = .ok (.ldc_w 298, 3) := e_19 (x := 1) (y := 42) drcX5_needArgument_0 8 rfl rfl
theorem dX5_needArgument_11 : decode cX5_needArgument 11 = .ok (.invokespecial 300, 3) := e_183 (x := 1) (y := 44) drcX5_needArgument_0 11 rfl rfl
theorem dX5_needArgument_14 : decode cX5_needArgument 14 = .ok (.athrow, 1) := dec_191 (gB drcX5_needArgument_0 14 rfl rfl)
theorem dX5_needArgument_15 : decode cX5_needArgument 15 = .ok (.return_, 1) := dec_177 (gB drcX5_needArgument_0 15 rfl rfl)
def lkcX5_needState_0 : List UInt8 := [0x1a, 0x9a, 0x00, 0x0e, 0xbb, 0x01, 0x2d, 0x59, 0x13, 0x01, 0x2f, 0xb7, 0x01, 0x31, 0xbf, 0xb1]
def tkcX5_needState_0 : List UInt8 := lkcX5_needState_0 ++ []
theorem drcX5_needState_0 : (cX5_needState).data.toList.drop 0 = lkcX5_needState_0 ++ [] := by decide +kernel
theorem dX5_needState_0 : decode cX5_needState 0 = .ok (.iload_n 0, 1) := dec_26 (gB drcX5_needState_0 0 rfl rfl)
theorem dX5_needState_1 : decode cX5_needState 1 = .ok (.ifCond .ne 14, 3) := e_154 (x := 0) (y := 14) drcX5_needState_0 1 rfl rfl
theorem dX5_needState_4 : decode cX5_needState 4 = .ok (.new 301, 3) := e_187 (x := 1) (y := 45) drcX5_needState_0 4 rfl rfl
theorem dX5_needState_7 : decode cX5_needState 7 = .ok (.dup, 1) := dec_89 (gB drcX5_needState_0 7 rfl rfl)
theorem dX5_needState_8 : decode cX5_needState 8 = .ok (.ldc_w 303, 3) := e_19 (x := 1) (y := 47) drcX5_needState_0 8 rfl rfl
theorem dX5_needState_11 : decode cX5_needState 11 = .ok (.invokespecial 305, 3) := e_183 (x := 1) (y := 49) drcX5_needState_0 11 rfl rfl
theorem dX5_needState_14 : decode cX5_needState 14 = .ok (.athrow, 1) := dec_191 (gB drcX5_needState_0 14 rfl rfl)
theorem dX5_needState_15 : decode cX5_needState 15 = .ok (.return_, 1) := dec_177 (gB drcX5_needState_0 15 rfl rfl)
def lkcX5_oneIf_0 : List UInt8 := [0x1a, 0x99, 0x00, 0x07, 0x04, 0xa7, 0x00, 0x04, 0x03, 0xac]
def tkcX5_oneIf_0 : List UInt8 := lkcX5_oneIf_0 ++ []
theorem drcX5_oneIf_0 : (cX5_oneIf).data.toList.drop 0 = lkcX5_oneIf_0 ++ [] := by decide +kernel
theorem dX5_oneIf_0 : decode cX5_oneIf 0 = .ok (.iload_n 0, 1) := dec_26 (gB drcX5_oneIf_0 0 rfl rfl)
theorem dX5_oneIf_1 : decode cX5_oneIf 1 = .ok (.ifCond .eq 7, 3) := e_153 (x := 0) (y := 7) drcX5_oneIf_0 1 rfl rfl
theorem dX5_oneIf_4 : decode cX5_oneIf 4 = .ok (.iconst 1, 1) := dec_4 (gB drcX5_oneIf_0 4 rfl rfl)
theorem dX5_oneIf_5 : decode cX5_oneIf 5 = .ok (.goto 4, 3) := e_167 (x := 0) (y := 4) drcX5_oneIf_0 5 rfl rfl
theorem dX5_oneIf_8 : decode cX5_oneIf 8 = .ok (.iconst 0, 1) := dec_3 (gB drcX5_oneIf_0 8 rfl rfl)
theorem dX5_oneIf_9 : decode cX5_oneIf 9 = .ok (.ireturn, 1) := dec_172 (gB drcX5_oneIf_0 9 rfl rfl)
def lkcX5_sheetActDone_0 : List UInt8 := [0x2a, 0x59, 0xb4, 0x00, 0xf8, 0x04, 0x60, 0xb5, 0x00, 0xf8, 0x1b, 0xac]
def tkcX5_sheetActDone_0 : List UInt8 := lkcX5_sheetActDone_0 ++ []
theorem drcX5_sheetActDone_0 : (cX5_sheetActDone).data.toList.drop 0 = lkcX5_sheetActDone_0 ++ [] := by decide +kernel
theorem dX5_sheetActDone_0 : decode cX5_sheetActDone 0 = .ok (.aload_n 0, 1) := dec_42 (gB drcX5_sheetActDone_0 0 rfl rfl)
theorem dX5_sheetActDone_1 : decode cX5_sheetActDone 1 = .ok (.dup, 1) := dec_89 (gB drcX5_sheetActDone_0 1 rfl rfl)
theorem dX5_sheetActDone_2 : decode cX5_sheetActDone 2 = .ok (.getfield 248, 3) := e_180 (x := 0) (y := 248) drcX5_sheetActDone_0 2 rfl rfl
theorem dX5_sheetActDone_5 : decode cX5_sheetActDone 5 = .ok (.iconst 1, 1) := dec_4 (gB drcX5_sheetActDone_0 5 rfl rfl)
theorem dX5_sheetActDone_6 : decode cX5_sheetActDone 6 = .ok (.iadd, 1) := dec_96 (gB drcX5_sheetActDone_0 6 rfl rfl)
theorem dX5_sheetActDone_7 : decode cX5_sheetActDone 7 = .ok (.putfield 248, 3) := e_181 (x := 0) (y := 248) drcX5_sheetActDone_0 7 rfl rfl
theorem dX5_sheetActDone_10 : decode cX5_sheetActDone 10 = .ok (.iload_n 1, 1) := dec_27 (gB drcX5_sheetActDone_0 10 rfl rfl)
theorem dX5_sheetActDone_11 : decode cX5_sheetActDone 11 = .ok (.ireturn, 1) := dec_172 (gB drcX5_sheetActDone_0 11 rfl rfl)
def lkcX5_growthActDone_0 : List UInt8 := [0x2a, 0x59, 0xb4, 0x00, 0xfb, 0x04, 0x60, 0xb5, 0x00, 0xfb, 0x1b, 0xac]
def tkcX5_growthActDone_0 : List UInt8 := lkcX5_growthActDone_0 ++ []
theorem drcX5_growthActDone_0 : (cX5_growthActDone).data.toList.drop 0 = lkcX5_growthActDone_0 ++ [] := by decide +kernel
theorem dX5_growthActDone_0 : decode cX5_growthActDone 0 = .ok (.aload_n 0, 1) := dec_42 (gB drcX5_growthActDone_0 0 rfl rfl)
theorem dX5_growthActDone_1 : decode cX5_growthActDone 1 = .ok (.dup, 1) := dec_89 (gB drcX5_growthActDone_0 1 rfl rfl)
theorem dX5_growthActDone_2 : decode cX5_growthActDone 2 = .ok (.getfield 251, 3) := e_180 (x := 0) (y := 251) drcX5_growthActDone_0 2 rfl rfl
theorem dX5_growthActDone_5 : decode cX5_growthActDone 5 = .ok (.iconst 1, 1) := dec_4 (gB drcX5_growthActDone_0 5 rfl rfl)
theorem dX5_growthActDone_6 : decode cX5_growthActDone 6 = .ok (.iadd, 1) := dec_96 (gB drcX5_growthActDone_0 6 rfl rfl)
theorem dX5_growthActDone_7 : decode cX5_growthActDone 7 = .ok (.putfield 251, 3) := e_181 (x := 0) (y := 251) drcX5_growthActDone_0 7 rfl rfl
theorem dX5_growthActDone_10 : decode cX5_growthActDone 10 = .ok (.iload_n 1, 1) := dec_27 (gB drcX5_growthActDone_0 10 rfl rfl)
theorem dX5_growthActDone_11 : decode cX5_growthActDone 11 = .ok (.ireturn, 1) := dec_172 (gB drcX5_growthActDone_0 11 rfl rfl)
def lkcX5_refuse_0 : List UInt8 := [0x2a, 0x59, 0xb4, 0x00, 0xfe, 0x04, 0x60, 0xb5, 0x00, 0xfe, 0x10, 0xf7, 0xac]
def tkcX5_refuse_0 : List UInt8 := lkcX5_refuse_0 ++ []
theorem drcX5_refuse_0 : (cX5_refuse).data.toList.drop 0 = lkcX5_refuse_0 ++ [] := by decide +kernel
theorem dX5_refuse_0 : decode cX5_refuse 0 = .ok (.aload_n 0, 1) := dec_42 (gB drcX5_refuse_0 0 rfl rfl)
theorem dX5_refuse_1 : decode cX5_refuse 1 = .ok (.dup, 1) := dec_89 (gB drcX5_refuse_0 1 rfl rfl)
theorem dX5_refuse_2 : decode cX5_refuse 2 = .ok (.getfield 254, 3) := e_180 (x := 0) (y := 254) drcX5_refuse_0 2 rfl rfl
theorem dX5_refuse_5 : decode cX5_refuse 5 = .ok (.iconst 1, 1) := dec_4 (gB drcX5_refuse_0 5 rfl rfl)
theorem dX5_refuse_6 : decode cX5_refuse 6 = .ok (.iadd, 1) := dec_96 (gB drcX5_refuse_0 6 rfl rfl)
theorem dX5_refuse_7 : decode cX5_refuse 7 = .ok (.putfield 254, 3) := e_181 (x := 0) (y := 254) drcX5_refuse_0 7 rfl rfl
theorem dX5_refuse_10 : decode cX5_refuse 10 = .ok (.bipush (-9), 2) := e_16 (x := 247) drcX5_refuse_0 10 rfl rfl
theorem dX5_refuse_12 : decode cX5_refuse 12 = .ok (.ireturn, 1) := dec_172 (gB drcX5_refuse_0 12 rfl rfl)
def lkcX5_exchangePart_0 : List UInt8 := [0x2b, 0xb4, 0x00, 0x32, 0x1d, 0x1c, 0x64, 0x64, 0x19, 0x04, 0xb4, 0x00, 0x32, 0x60, 0x10, 0x40, 0xa4, 0x00, 0x08, 0x2a, 0xb6, 0x00, 0x79, 0xac, 0x2a, 0xb4, 0x00, 0x1d, 0xb6, 0x00, 0x41, 0x2a, 0xb4, 0x00, 0x1d, 0x2b, 0x03, 0x1c, 0xb6, 0x00, 0x5d, 0x2a, 0xb4, 0x00, 0x1d, 0x19, 0x04, 0x03, 0x19, 0x04, 0xb4, 0x00, 0x32, 0xb6, 0x00, 0x5d, 0x2a, 0xb4, 0x00, 0x1d, 0x2b, 0x1d, 0x2b, 0xb4]
def lkcX5_exchangePart_1 : List UInt8 := [0x00, 0x32, 0xb6, 0x00, 0x5d, 0x2b, 0x2a, 0xb4, 0x00, 0x1d, 0xb6, 0x00, 0x61, 0x2a, 0x2b, 0xb4, 0x00, 0x32, 0xb6, 0x00, 0x36, 0xac]
def tkcX5_exchangePart_1 : List UInt8 := lkcX5_exchangePart_1 ++ []
def tkcX5_exchangePart_0 : List UInt8 := lkcX5_exchangePart_0 ++ tkcX5_exchangePart_1
theorem drcX5_exchangePart_0 : (cX5_exchangePart).data.toList.drop 0 = lkcX5_exchangePart_0 ++ tkcX5_exchangePart_1 := by decide +kernel
theorem drcX5_exchangePart_1 : (cX5_exchangePart).data.toList.drop 64 = lkcX5_exchangePart_1 ++ [] := dr_step drcX5_exchangePart_0 rfl
theorem dX5_exchangePart_0 : decode cX5_exchangePart 0 = .ok (.aload_n 1, 1) := dec_43 (gB drcX5_exchangePart_0 0 rfl rfl)
theorem dX5_exchangePart_1 : decode cX5_exchangePart 1 = .ok (.getfield 50, 3) := e_180 (x := 0) (y := 50) drcX5_exchangePart_0 1 rfl rfl
theorem dX5_exchangePart_4 : decode cX5_exchangePart 4 = .ok (.iload_n 3, 1) := dec_29 (gB drcX5_exchangePart_0 4 rfl rfl)
theorem dX5_exchangePart_5 : decode cX5_exchangePart 5 = .ok (.iload_n 2, 1) := dec_28 (gB drcX5_exchangePart_0 5 rfl rfl)
theorem dX5_exchangePart_6 : decode cX5_exchangePart 6 = .ok (.isub, 1) := dec_100 (gB drcX5_exchangePart_0 6 rfl rfl)
theorem dX5_exchangePart_7 : decode cX5_exchangePart 7 = .ok (.isub, 1) := dec_100 (gB drcX5_exchangePart_0 7 rfl rfl)
theorem dX5_exchangePart_8 : decode cX5_exchangePart 8 = .ok (.aload 4, 2) := e_25 (x := 4) drcX5_exchangePart_0 8 rfl rfl
theorem dX5_exchangePart_10 : decode cX5_exchangePart 10 = .ok (.getfield 50, 3) := e_180 (x := 0) (y := 50) drcX5_exchangePart_0 10 rfl rfl
theorem dX5_exchangePart_13 : decode cX5_exchangePart 13 = .ok (.iadd, 1) := dec_96 (gB drcX5_exchangePart_0 13 rfl rfl)
theorem dX5_exchangePart_14 : decode cX5_exchangePart 14 = .ok (.bipush 64, 2) := e_16 (x := 64) drcX5_exchangePart_0 14 rfl rfl
theorem dX5_exchangePart_16 : decode cX5_exchangePart 16 = .ok (.if_icmp .le 8, 3) := e_164 (x := 0) (y := 8) drcX5_exchangePart_0 16 rfl rfl
theorem dX5_exchangePart_19 : decode cX5_exchangePart 19 = .ok (.aload_n 0, 1) := dec_42 (gB drcX5_exchangePart_0 19 rfl rfl)
theorem dX5_exchangePart_20 : decode cX5_exchangePart 20 = .ok (.invokevirtual 121, 3) := e_182 (x := 0) (y := 121) drcX5_exchangePart_0 20 rfl rfl
theorem dX5_exchangePart_23 : decode cX5_exchangePart 23 = .ok (.ireturn, 1) := dec_172 (gB drcX5_exchangePart_0 23 rfl rfl)
theorem dX5_exchangePart_24 : decode cX5_exchangePart 24 = .ok (.aload_n 0, 1) := dec_42 (gB drcX5_exchangePart_0 24 rfl rfl)
theorem dX5_exchangePart_25 : decode cX5_exchangePart 25 = .ok (.getfield 29, 3) := e_180 (x := 0) (y := 29) drcX5_exchangePart_0 25 rfl rfl
theorem dX5_exchangePart_28 : decode cX5_exchangePart 28 = .ok (.invokevirtual 65, 3) := e_182 (x := 0) (y := 65) drcX5_exchangePart_0 28 rfl rfl
theorem dX5_exchangePart_31 : decode cX5_exchangePart 31 = .ok (.aload_n 0, 1) := dec_42 (gB drcX5_exchangePart_0 31 rfl rfl)
theorem dX5_exchangePart_32 : decode cX5_exchangePart 32 = .ok (.getfield 29, 3) := e_180 (x := 0) (y := 29) drcX5_exchangePart_0 32 rfl rfl
theorem dX5_exchangePart_35 : decode cX5_exchangePart 35 = .ok (.aload_n 1, 1) := dec_43 (gB drcX5_exchangePart_0 35 rfl rfl)
theorem dX5_exchangePart_36 : decode cX5_exchangePart 36 = .ok (.iconst 0, 1) := dec_3 (gB drcX5_exchangePart_0 36 rfl rfl)
theorem dX5_exchangePart_37 : decode cX5_exchangePart 37 = .ok (.iload_n 2, 1) := dec_28 (gB drcX5_exchangePart_0 37 rfl rfl)
theorem dX5_exchangePart_38 : decode cX5_exchangePart 38 = .ok (.invokevirtual 93, 3) := e_182 (x := 0) (y := 93) drcX5_exchangePart_0 38 rfl rfl
theorem dX5_exchangePart_41 : decode cX5_exchangePart 41 = .ok (.aload_n 0, 1) := dec_42 (gB drcX5_exchangePart_0 41 rfl rfl)
theorem dX5_exchangePart_42 : decode cX5_exchangePart 42 = .ok (.getfield 29, 3) := e_180 (x := 0) (y := 29) drcX5_exchangePart_0 42 rfl rfl
theorem dX5_exchangePart_45 : decode cX5_exchangePart 45 = .ok (.aload 4, 2) := e_25 (x := 4) drcX5_exchangePart_0 45 rfl rfl
theorem dX5_exchangePart_47 : decode cX5_exchangePart 47 = .ok (.iconst 0, 1) := dec_3 (gB drcX5_exchangePart_0 47 rfl rfl)
theorem dX5_exchangePart_48 : decode cX5_exchangePart 48 = .ok (.aload 4, 2) := e_25 (x := 4) drcX5_exchangePart_0 48 rfl rfl
theorem dX5_exchangePart_50 : decode cX5_exchangePart 50 = .ok (.getfield 50, 3) := e_180 (x := 0) (y := 50) drcX5_exchangePart_0 50 rfl rfl
theorem dX5_exchangePart_53 : decode cX5_exchangePart 53 = .ok (.invokevirtual 93, 3) := e_182 (x := 0) (y := 93) drcX5_exchangePart_0 53 rfl rfl
theorem dX5_exchangePart_56 : decode cX5_exchangePart 56 = .ok (.aload_n 0, 1) := dec_42 (gB drcX5_exchangePart_0 56 rfl rfl)
theorem dX5_exchangePart_57 : decode cX5_exchangePart 57 = .ok (.getfield 29, 3) := e_180 (x := 0) (y := 29) drcX5_exchangePart_0 57 rfl rfl
theorem dX5_exchangePart_60 : decode cX5_exchangePart 60 = .ok (.aload_n 1, 1) := dec_43 (gB drcX5_exchangePart_0 60 rfl rfl)
theorem dX5_exchangePart_61 : decode cX5_exchangePart 61 = .ok (.iload_n 3, 1) := dec_29 (gB drcX5_exchangePart_0 61 rfl rfl)
theorem dX5_exchangePart_62 : decode cX5_exchangePart 62 = .ok (.aload_n 1, 1) := dec_43 (gB drcX5_exchangePart_0 62 rfl rfl)
theorem dX5_exchangePart_63 : decode cX5_exchangePart 63 = .ok (.getfield 50, 3) := dec_180 (a := 0) (b := 50) (gB drcX5_exchangePart_0 63 rfl rfl) (gB drcX5_exchangePart_1 0 rfl rfl) (gB drcX5_exchangePart_1 1 rfl rfl)
theorem dX5_exchangePart_66 : decode cX5_exchangePart 66 = .ok (.invokevirtual 93, 3) := e_182 (x := 0) (y := 93) drcX5_exchangePart_1 2 rfl rfl
theorem dX5_exchangePart_69 : decode cX5_exchangePart 69 = .ok (.aload_n 1, 1) := dec_43 (gB drcX5_exchangePart_1 5 rfl rfl)
theorem dX5_exchangePart_70 : decode cX5_exchangePart 70 = .ok (.aload_n 0, 1) := dec_42 (gB drcX5_exchangePart_1 6 rfl rfl)
theorem dX5_exchangePart_71 : decode cX5_exchangePart 71 = .ok (.getfield 29, 3) := e_180 (x := 0) (y := 29) drcX5_exchangePart_1 7 rfl rfl
theorem dX5_exchangePart_74 : decode cX5_exchangePart 74 = .ok (.invokevirtual 97, 3) := e_182 (x := 0) (y := 97) drcX5_exchangePart_1 10 rfl rfl
theorem dX5_exchangePart_77 : decode cX5_exchangePart 77 = .ok (.aload_n 0, 1) := dec_42 (gB drcX5_exchangePart_1 13 rfl rfl)
theorem dX5_exchangePart_78 : decode cX5_exchangePart 78 = .ok (.aload_n 1, 1) := dec_43 (gB drcX5_exchangePart_1 14 rfl rfl)
theorem dX5_exchangePart_79 : decode cX5_exchangePart 79 = .ok (.getfield 50, 3) := e_180 (x := 0) (y := 50) drcX5_exchangePart_1 15 rfl rfl
theorem dX5_exchangePart_82 : decode cX5_exchangePart 82 = .ok (.invokevirtual 54, 3) := e_182 (x := 0) (y := 54) drcX5_exchangePart_1 18 rfl rfl
theorem dX5_exchangePart_85 : decode cX5_exchangePart 85 = .ok (.ireturn, 1) := dec_172 (gB drcX5_exchangePart_1 21 rfl rfl)
def lkcX5_takeOut_0 : List UInt8 := [0x2b, 0x1c, 0x1d, 0x1c, 0x64, 0xb8, 0x01, 0x32, 0x36, 0x04, 0x2a, 0xb4, 0x00, 0x1d, 0xb6, 0x00, 0x41, 0x2a, 0xb4, 0x00, 0x1d, 0x2b, 0x03, 0x1c, 0xb6, 0x00, 0x5d, 0x2a, 0xb4, 0x00, 0x1d, 0x2b, 0x1d, 0x2b, 0xb4, 0x00, 0x32, 0xb6, 0x00, 0x5d, 0x2b, 0x2a, 0xb4, 0x00, 0x1d, 0xb6, 0x00, 0x61, 0x2a, 0x15, 0x04, 0xb6, 0x00, 0x36, 0xac]
def tkcX5_takeOut_0 : List UInt8 := lkcX5_takeOut_0 ++ []
theorem drcX5_takeOut_0 : (cX5_takeOut).data.toList.drop 0 = lkcX5_takeOut_0 ++ [] := by decide +kernel
theorem dX5_takeOut_0 : decode cX5_takeOut 0 = .ok (.aload_n 1, 1) := dec_43 (gB drcX5_takeOut_0 0 rfl rfl)
theorem dX5_takeOut_1 : decode cX5_takeOut 1 = .ok (.iload_n 2, 1) := dec_28 (gB drcX5_takeOut_0 1 rfl rfl)
theorem dX5_takeOut_2 : decode cX5_takeOut 2 = .ok (.iload_n 3, 1) := dec_29 (gB drcX5_takeOut_0 2 rfl rfl)
theorem dX5_takeOut_3 : decode cX5_takeOut 3 = .ok (.iload_n 2, 1) := dec_28 (gB drcX5_takeOut_0 3 rfl rfl)
theorem dX5_takeOut_4 : decode cX5_takeOut 4 = .ok (.isub, 1) := dec_100 (gB drcX5_takeOut_0 4 rfl rfl)
theorem dX5_takeOut_5 : decode cX5_takeOut 5 = .ok (.invokestatic 306, 3) := e_184 (x := 1) (y := 50) drcX5_takeOut_0 5 rfl rfl
theorem dX5_takeOut_8 : decode cX5_takeOut 8 = .ok (.istore 4, 2) := e_54 (x := 4) drcX5_takeOut_0 8 rfl rfl
theorem dX5_takeOut_10 : decode cX5_takeOut 10 = .ok (.aload_n 0, 1) := dec_42 (gB drcX5_takeOut_0 10 rfl rfl)
theorem dX5_takeOut_11 : decode cX5_takeOut 11 = .ok (.getfield 29, 3) := e_180 (x := 0) (y := 29) drcX5_takeOut_0 11 rfl rfl
theorem dX5_takeOut_14 : decode cX5_takeOut 14 = .ok (.invokevirtual 65, 3) := e_182 (x := 0) (y := 65) drcX5_takeOut_0 14 rfl rfl
theorem dX5_takeOut_17 : decode cX5_takeOut 17 = .ok (.aload_n 0, 1) := dec_42 (gB drcX5_takeOut_0 17 rfl rfl)
theorem dX5_takeOut_18 : decode cX5_takeOut 18 = .ok (.getfield 29, 3) := e_180 (x := 0) (y := 29) drcX5_takeOut_0 18 rfl rfl
theorem dX5_takeOut_21 : decode cX5_takeOut 21 = .ok (.aload_n 1, 1) := dec_43 (gB drcX5_takeOut_0 21 rfl rfl)
theorem dX5_takeOut_22 : decode cX5_takeOut 22 = .ok (.iconst 0, 1) := dec_3 (gB drcX5_takeOut_0 22 rfl rfl)
theorem dX5_takeOut_23 : decode cX5_takeOut 23 = .ok (.iload_n 2, 1) := dec_28 (gB drcX5_takeOut_0 23 rfl rfl)
theorem dX5_takeOut_24 : decode cX5_takeOut 24 = .ok (.invokevirtual 93, 3) := e_182 (x := 0) (y := 93) drcX5_takeOut_0 24 rfl rfl
theorem dX5_takeOut_27 : decode cX5_takeOut 27 = .ok (.aload_n 0, 1) := dec_42 (gB drcX5_takeOut_0 27 rfl rfl)
theorem dX5_takeOut_28 : decode cX5_takeOut 28 = .ok (.getfield 29, 3) := e_180 (x := 0) (y := 29) drcX5_takeOut_0 28 rfl rfl
theorem dX5_takeOut_31 : decode cX5_takeOut 31 = .ok (.aload_n 1, 1) := dec_43 (gB drcX5_takeOut_0 31 rfl rfl)
theorem dX5_takeOut_32 : decode cX5_takeOut 32 = .ok (.iload_n 3, 1) := dec_29 (gB drcX5_takeOut_0 32 rfl rfl)
theorem dX5_takeOut_33 : decode cX5_takeOut 33 = .ok (.aload_n 1, 1) := dec_43 (gB drcX5_takeOut_0 33 rfl rfl)
theorem dX5_takeOut_34 : decode cX5_takeOut 34 = .ok (.getfield 50, 3) := e_180 (x := 0) (y := 50) drcX5_takeOut_0 34 rfl rfl
theorem dX5_takeOut_37 : decode cX5_takeOut 37 = .ok (.invokevirtual 93, 3) := e_182 (x := 0) (y := 93) drcX5_takeOut_0 37 rfl rfl
theorem dX5_takeOut_40 : decode cX5_takeOut 40 = .ok (.aload_n 1, 1) := dec_43 (gB drcX5_takeOut_0 40 rfl rfl)
theorem dX5_takeOut_41 : decode cX5_takeOut 41 = .ok (.aload_n 0, 1) := dec_42 (gB drcX5_takeOut_0 41 rfl rfl)
theorem dX5_takeOut_42 : decode cX5_takeOut 42 = .ok (.getfield 29, 3) := e_180 (x := 0) (y := 29) drcX5_takeOut_0 42 rfl rfl
theorem dX5_takeOut_45 : decode cX5_takeOut 45 = .ok (.invokevirtual 97, 3) := e_182 (x := 0) (y := 97) drcX5_takeOut_0 45 rfl rfl
theorem dX5_takeOut_48 : decode cX5_takeOut 48 = .ok (.aload_n 0, 1) := dec_42 (gB drcX5_takeOut_0 48 rfl rfl)
theorem dX5_takeOut_49 : decode cX5_takeOut 49 = .ok (.iload 4, 2) := e_21 (x := 4) drcX5_takeOut_0 49 rfl rfl
theorem dX5_takeOut_51 : decode cX5_takeOut 51 = .ok (.invokevirtual 54, 3) := e_182 (x := 0) (y := 54) drcX5_takeOut_0 51 rfl rfl
theorem dX5_takeOut_54 : decode cX5_takeOut 54 = .ok (.ireturn, 1) := dec_172 (gB drcX5_takeOut_0 54 rfl rfl)
def lkcX5_settle_0 : List UInt8 := [0x2b, 0x2c, 0xb8, 0x00, 0xc3, 0x9a, 0x00, 0x07, 0x04, 0xa7, 0x00, 0x04, 0x03, 0x3e, 0x2b, 0x2c, 0xb6, 0x00, 0x61, 0x2a, 0x1d, 0x9a, 0x00, 0x07, 0x04, 0xa7, 0x00, 0x04, 0x03, 0xb8, 0x00, 0x4f, 0xb6, 0x00, 0x36, 0xac]
def tkcX5_settle_0 : List UInt8 := lkcX5_settle_0 ++ []
theorem drcX5_settle_0 : (cX5_settle).data.toList.drop 0 = lkcX5_settle_0 ++ [] := by decide +kernel
theorem dX5_settle_0 : decode cX5_settle 0 = .ok (.aload_n 1, 1) := dec_43 (gB drcX5_settle_0 0 rfl rfl)
theorem dX5_settle_1 : decode cX5_settle 1 = .ok (.aload_n 2, 1) := dec_44 (gB drcX5_settle_0 1 rfl rfl)
theorem dX5_settle_2 : decode cX5_settle 2 = .ok (.invokestatic 195, 3) := e_184 (x := 0) (y := 195) drcX5_settle_0 2 rfl rfl
theorem dX5_settle_5 : decode cX5_settle 5 = .ok (.ifCond .ne 7, 3) := e_154 (x := 0) (y := 7) drcX5_settle_0 5 rfl rfl
theorem dX5_settle_8 : decode cX5_settle 8 = .ok (.iconst 1, 1) := dec_4 (gB drcX5_settle_0 8 rfl rfl)
theorem dX5_settle_9 : decode cX5_settle 9 = .ok (.goto 4, 3) := e_167 (x := 0) (y := 4) drcX5_settle_0 9 rfl rfl
theorem dX5_settle_12 : decode cX5_settle 12 = .ok (.iconst 0, 1) := dec_3 (gB drcX5_settle_0 12 rfl rfl)
theorem dX5_settle_13 : decode cX5_settle 13 = .ok (.istore_n 3, 1) := dec_62 (gB drcX5_settle_0 13 rfl rfl)
theorem dX5_settle_14 : decode cX5_settle 14 = .ok (.aload_n 1, 1) := dec_43 (gB drcX5_settle_0 14 rfl rfl)
theorem dX5_settle_15 : decode cX5_settle 15 = .ok (.aload_n 2, 1) := dec_44 (gB drcX5_settle_0 15 rfl rfl)
theorem dX5_settle_16 : decode cX5_settle 16 = .ok (.invokevirtual 97, 3) := e_182 (x := 0) (y := 97) drcX5_settle_0 16 rfl rfl
theorem dX5_settle_19 : decode cX5_settle 19 = .ok (.aload_n 0, 1) := dec_42 (gB drcX5_settle_0 19 rfl rfl)
theorem dX5_settle_20 : decode cX5_settle 20 = .ok (.iload_n 3, 1) := dec_29 (gB drcX5_settle_0 20 rfl rfl)
theorem dX5_settle_21 : decode cX5_settle 21 = .ok (.ifCond .ne 7, 3) := e_154 (x := 0) (y := 7) drcX5_settle_0 21 rfl rfl
theorem dX5_settle_24 : decode cX5_settle 24 = .ok (.iconst 1, 1) := dec_4 (gB drcX5_settle_0 24 rfl rfl)
theorem dX5_settle_25 : decode cX5_settle 25 = .ok (.goto 4, 3) := e_167 (x := 0) (y := 4) drcX5_settle_0 25 rfl rfl
theorem dX5_settle_28 : decode cX5_settle 28 = .ok (.iconst 0, 1) := dec_3 (gB drcX5_settle_0 28 rfl rfl)
theorem dX5_settle_29 : decode cX5_settle 29 = .ok (.invokestatic 79, 3) := e_184 (x := 0) (y := 79) drcX5_settle_0 29 rfl rfl
theorem dX5_settle_32 : decode cX5_settle 32 = .ok (.invokevirtual 54, 3) := e_182 (x := 0) (y := 54) drcX5_settle_0 32 rfl rfl
theorem dX5_settle_35 : decode cX5_settle 35 = .ok (.ireturn, 1) := dec_172 (gB drcX5_settle_0 35 rfl rfl)
def lkcX5_takeRule_0 : List UInt8 := [0x1b, 0x05, 0xa1, 0x00, 0x0d, 0x1b, 0x10, 0x1f, 0xa3, 0x00, 0x07, 0x04, 0xa7, 0x00, 0x04, 0x03, 0xb8, 0x00, 0x2a, 0x1c, 0x05, 0xa1, 0x00, 0x0d, 0x1c, 0x10, 0x1f, 0xa3, 0x00, 0x07, 0x04, 0xa7, 0x00, 0x04, 0x03, 0xb8, 0x00, 0x2a, 0x2a, 0xb4, 0x00, 0x18, 0x1b, 0x1c, 0xb6, 0x01, 0x35, 0xb1]
def tkcX5_takeRule_0 : List UInt8 := lkcX5_takeRule_0 ++ []
theorem drcX5_takeRule_0 : (cX5_takeRule).data.toList.drop 0 = lkcX5_takeRule_0 ++ [] := by decide +kernel
theorem dX5_takeRule_0 : decode cX5_takeRule 0 = .ok (.iload_n 1, 1) := dec_27 (gB drcX5_takeRule_0 0 rfl rfl)
theorem dX5_takeRule_1 : decode cX5_takeRule 1 = .ok (.iconst 2, 1) := dec_5 (gB drcX5_takeRule_0 1 rfl rfl)
theorem dX5_takeRule_2 : decode cX5_takeRule 2 = .ok (.if_icmp .lt 13, 3) := e_161 (x := 0) (y := 13) drcX5_takeRule_0 2 rfl rfl
theorem dX5_takeRule_5 : decode cX5_takeRule 5 = .ok (.iload_n 1, 1) := dec_27 (gB drcX5_takeRule_0 5 rfl rfl)
theorem dX5_takeRule_6 : decode cX5_takeRule 6 = .ok (.bipush 31, 2) := e_16 (x := 31) drcX5_takeRule_0 6 rfl rfl
theorem dX5_takeRule_8 : decode cX5_takeRule 8 = .ok (.if_icmp .gt 7, 3) := e_163 (x := 0) (y := 7) drcX5_takeRule_0 8 rfl rfl
theorem dX5_takeRule_11 : decode cX5_takeRule 11 = .ok (.iconst 1, 1) := dec_4 (gB drcX5_takeRule_0 11 rfl rfl)
theorem dX5_takeRule_12 : decode cX5_takeRule 12 = .ok (.goto 4, 3) := e_167 (x := 0) (y := 4) drcX5_takeRule_0 12 rfl rfl
theorem dX5_takeRule_15 : decode cX5_takeRule 15 = .ok (.iconst 0, 1) := dec_3 (gB drcX5_takeRule_0 15 rfl rfl)
theorem dX5_takeRule_16 : decode cX5_takeRule 16 = .ok (.invokestatic 42, 3) := e_184 (x := 0) (y := 42) drcX5_takeRule_0 16 rfl rfl
theorem dX5_takeRule_19 : decode cX5_takeRule 19 = .ok (.iload_n 2, 1) := dec_28 (gB drcX5_takeRule_0 19 rfl rfl)
theorem dX5_takeRule_20 : decode cX5_takeRule 20 = .ok (.iconst 2, 1) := dec_5 (gB drcX5_takeRule_0 20 rfl rfl)
theorem dX5_takeRule_21 : decode cX5_takeRule 21 = .ok (.if_icmp .lt 13, 3) := e_161 (x := 0) (y := 13) drcX5_takeRule_0 21 rfl rfl
theorem dX5_takeRule_24 : decode cX5_takeRule 24 = .ok (.iload_n 2, 1) := dec_28 (gB drcX5_takeRule_0 24 rfl rfl)
theorem dX5_takeRule_25 : decode cX5_takeRule 25 = .ok (.bipush 31, 2) := e_16 (x := 31) drcX5_takeRule_0 25 rfl rfl
theorem dX5_takeRule_27 : decode cX5_takeRule 27 = .ok (.if_icmp .gt 7, 3) := e_163 (x := 0) (y := 7) drcX5_takeRule_0 27 rfl rfl
theorem dX5_takeRule_30 : decode cX5_takeRule 30 = .ok (.iconst 1, 1) := dec_4 (gB drcX5_takeRule_0 30 rfl rfl)
theorem dX5_takeRule_31 : decode cX5_takeRule 31 = .ok (.goto 4, 3) := e_167 (x := 0) (y := 4) drcX5_takeRule_0 31 rfl rfl
theorem dX5_takeRule_34 : decode cX5_takeRule 34 = .ok (.iconst 0, 1) := dec_3 (gB drcX5_takeRule_0 34 rfl rfl)
theorem dX5_takeRule_35 : decode cX5_takeRule 35 = .ok (.invokestatic 42, 3) := e_184 (x := 0) (y := 42) drcX5_takeRule_0 35 rfl rfl
theorem dX5_takeRule_38 : decode cX5_takeRule 38 = .ok (.aload_n 0, 1) := dec_42 (gB drcX5_takeRule_0 38 rfl rfl)
theorem dX5_takeRule_39 : decode cX5_takeRule 39 = .ok (.getfield 24, 3) := e_180 (x := 0) (y := 24) drcX5_takeRule_0 39 rfl rfl
theorem dX5_takeRule_42 : decode cX5_takeRule 42 = .ok (.iload_n 1, 1) := dec_27 (gB drcX5_takeRule_0 42 rfl rfl)
theorem dX5_takeRule_43 : decode cX5_takeRule 43 = .ok (.iload_n 2, 1) := dec_28 (gB drcX5_takeRule_0 43 rfl rfl)
theorem dX5_takeRule_44 : decode cX5_takeRule 44 = .ok (.invokevirtual 309, 3) := e_182 (x := 1) (y := 53) drcX5_takeRule_0 44 rfl rfl
theorem dX5_takeRule_47 : decode cX5_takeRule 47 = .ok (.return_, 1) := dec_177 (gB drcX5_takeRule_0 47 rfl rfl)
def lkcX5_isUpOnLine_0 : List UInt8 := [0x1a, 0x9e, 0x00, 0x14, 0x1d, 0x1b, 0x68, 0x1c, 0x60, 0x1a, 0x70, 0x1b, 0x60, 0x1a, 0xa1, 0x00, 0x07, 0x04, 0xa7, 0x00, 0x04, 0x03, 0xac]
def tkcX5_isUpOnLine_0 : List UInt8 := lkcX5_isUpOnLine_0 ++ []
theorem drcX5_isUpOnLine_0 : (cX5_isUpOnLine).data.toList.drop 0 = lkcX5_isUpOnLine_0 ++ [] := by decide +kernel
theorem dX5_isUpOnLine_0 : decode cX5_isUpOnLine 0 = .ok (.iload_n 0, 1) := dec_26 (gB drcX5_isUpOnLine_0 0 rfl rfl)
theorem dX5_isUpOnLine_1 : decode cX5_isUpOnLine 1 = .ok (.ifCond .le 20, 3) := e_158 (x := 0) (y := 20) drcX5_isUpOnLine_0 1 rfl rfl
theorem dX5_isUpOnLine_4 : decode cX5_isUpOnLine 4 = .ok (.iload_n 3, 1) := dec_29 (gB drcX5_isUpOnLine_0 4 rfl rfl)
theorem dX5_isUpOnLine_5 : decode cX5_isUpOnLine 5 = .ok (.iload_n 1, 1) := dec_27 (gB drcX5_isUpOnLine_0 5 rfl rfl)
theorem dX5_isUpOnLine_6 : decode cX5_isUpOnLine 6 = .ok (.imul, 1) := dec_104 (gB drcX5_isUpOnLine_0 6 rfl rfl)
theorem dX5_isUpOnLine_7 : decode cX5_isUpOnLine 7 = .ok (.iload_n 2, 1) := dec_28 (gB drcX5_isUpOnLine_0 7 rfl rfl)
theorem dX5_isUpOnLine_8 : decode cX5_isUpOnLine 8 = .ok (.iadd, 1) := dec_96 (gB drcX5_isUpOnLine_0 8 rfl rfl)
theorem dX5_isUpOnLine_9 : decode cX5_isUpOnLine 9 = .ok (.iload_n 0, 1) := dec_26 (gB drcX5_isUpOnLine_0 9 rfl rfl)
theorem dX5_isUpOnLine_10 : decode cX5_isUpOnLine 10 = .ok (.irem, 1) := dec_112 (gB drcX5_isUpOnLine_0 10 rfl rfl)
theorem dX5_isUpOnLine_11 : decode cX5_isUpOnLine 11 = .ok (.iload_n 1, 1) := dec_27 (gB drcX5_isUpOnLine_0 11 rfl rfl)
theorem dX5_isUpOnLine_12 : decode cX5_isUpOnLine 12 = .ok (.iadd, 1) := dec_96 (gB drcX5_isUpOnLine_0 12 rfl rfl)
theorem dX5_isUpOnLine_13 : decode cX5_isUpOnLine 13 = .ok (.iload_n 0, 1) := dec_26 (gB drcX5_isUpOnLine_0 13 rfl rfl)
theorem dX5_isUpOnLine_14 : decode cX5_isUpOnLine 14 = .ok (.if_icmp .lt 7, 3) := e_161 (x := 0) (y := 7) drcX5_isUpOnLine_0 14 rfl rfl
theorem dX5_isUpOnLine_17 : decode cX5_isUpOnLine 17 = .ok (.iconst 1, 1) := dec_4 (gB drcX5_isUpOnLine_0 17 rfl rfl)
theorem dX5_isUpOnLine_18 : decode cX5_isUpOnLine 18 = .ok (.goto 4, 3) := e_167 (x := 0) (y := 4) drcX5_isUpOnLine_0 18 rfl rfl
theorem dX5_isUpOnLine_21 : decode cX5_isUpOnLine 21 = .ok (.iconst 0, 1) := dec_3 (gB drcX5_isUpOnLine_0 21 rfl rfl)
theorem dX5_isUpOnLine_22 : decode cX5_isUpOnLine 22 = .ok (.ireturn, 1) := dec_172 (gB drcX5_isUpOnLine_0 22 rfl rfl)
def lkcX5_isSheetSound_0 : List UInt8 := [0x2a, 0x1b, 0xb6, 0x00, 0x25, 0x4d, 0x2a, 0xb4, 0x00, 0x1d, 0x2c, 0xb6, 0x00, 0x65, 0x2a, 0xb4, 0x00, 0x21, 0x2a, 0xb4, 0x00, 0x1d, 0xb6, 0x00, 0x65, 0x2c, 0xb4, 0x00, 0x32, 0x10, 0x40, 0xa3, 0x00, 0x26, 0x2a, 0x1b, 0x03, 0xb6, 0x01, 0x37, 0x2a, 0x1b, 0x04, 0xb6, 0x01, 0x37, 0x60, 0x2c, 0xb4, 0x00, 0x32, 0xa0, 0x00, 0x12, 0x2c, 0x2a, 0xb4, 0x00, 0x21, 0xb8, 0x00, 0xc3, 0x9a, 0x00]
def lkcX5_isSheetSound_1 : List UInt8 := [0x07, 0x04, 0xa7, 0x00, 0x04, 0x03, 0xac]
def tkcX5_isSheetSound_1 : List UInt8 := lkcX5_isSheetSound_1 ++ []
def tkcX5_isSheetSound_0 : List UInt8 := lkcX5_isSheetSound_0 ++ tkcX5_isSheetSound_1
theorem drcX5_isSheetSound_0 : (cX5_isSheetSound).data.toList.drop 0 = lkcX5_isSheetSound_0 ++ tkcX5_isSheetSound_1 := by decide +kernel
theorem drcX5_isSheetSound_1 : (cX5_isSheetSound).data.toList.drop 64 = lkcX5_isSheetSound_1 ++ [] := dr_step drcX5_isSheetSound_0 rfl
theorem dX5_isSheetSound_0 : decode cX5_isSheetSound 0 = .ok (.aload_n 0, 1) := dec_42 (gB drcX5_isSheetSound_0 0 rfl rfl)
theorem dX5_isSheetSound_1 : decode cX5_isSheetSound 1 = .ok (.iload_n 1, 1) := dec_27 (gB drcX5_isSheetSound_0 1 rfl rfl)
theorem dX5_isSheetSound_2 : decode cX5_isSheetSound 2 = .ok (.invokevirtual 37, 3) := e_182 (x := 0) (y := 37) drcX5_isSheetSound_0 2 rfl rfl
theorem dX5_isSheetSound_5 : decode cX5_isSheetSound 5 = .ok (.astore_n 2, 1) := dec_77 (gB drcX5_isSheetSound_0 5 rfl rfl)
theorem dX5_isSheetSound_6 : decode cX5_isSheetSound 6 = .ok (.aload_n 0, 1) := dec_42 (gB drcX5_isSheetSound_0 6 rfl rfl)
theorem dX5_isSheetSound_7 : decode cX5_isSheetSound 7 = .ok (.getfield 29, 3) := e_180 (x := 0) (y := 29) drcX5_isSheetSound_0 7 rfl rfl
theorem dX5_isSheetSound_10 : decode cX5_isSheetSound 10 = .ok (.aload_n 2, 1) := dec_44 (gB drcX5_isSheetSound_0 10 rfl rfl)
theorem dX5_isSheetSound_11 : decode cX5_isSheetSound 11 = .ok (.invokevirtual 101, 3) := e_182 (x := 0) (y := 101) drcX5_isSheetSound_0 11 rfl rfl
theorem dX5_isSheetSound_14 : decode cX5_isSheetSound 14 = .ok (.aload_n 0, 1) := dec_42 (gB drcX5_isSheetSound_0 14 rfl rfl)
theorem dX5_isSheetSound_15 : decode cX5_isSheetSound 15 = .ok (.getfield 33, 3) := e_180 (x := 0) (y := 33) drcX5_isSheetSound_0 15 rfl rfl
theorem dX5_isSheetSound_18 : decode cX5_isSheetSound 18 = .ok (.aload_n 0, 1) := dec_42 (gB drcX5_isSheetSound_0 18 rfl rfl)
theorem dX5_isSheetSound_19 : decode cX5_isSheetSound 19 = .ok (.getfield 29, 3) := e_180 (x := 0) (y := 29) drcX5_isSheetSound_0 19 rfl rfl
theorem dX5_isSheetSound_22 : decode cX5_isSheetSound 22 = .ok (.invokevirtual 101, 3) := e_182 (x := 0) (y := 101) drcX5_isSheetSound_0 22 rfl rfl
theorem dX5_isSheetSound_25 : decode cX5_isSheetSound 25 = .ok (.aload_n 2, 1) := dec_44 (gB drcX5_isSheetSound_0 25 rfl rfl)
theorem dX5_isSheetSound_26 : decode cX5_isSheetSound 26 = .ok (.getfield 50, 3) := e_180 (x := 0) (y := 50) drcX5_isSheetSound_0 26 rfl rfl
theorem dX5_isSheetSound_29 : decode cX5_isSheetSound 29 = .ok (.bipush 64, 2) := e_16 (x := 64) drcX5_isSheetSound_0 29 rfl rfl
theorem dX5_isSheetSound_31 : decode cX5_isSheetSound 31 = .ok (.if_icmp .gt 38, 3) := e_163 (x := 0) (y := 38) drcX5_isSheetSound_0 31 rfl rfl
theorem dX5_isSheetSound_34 : decode cX5_isSheetSound 34 = .ok (.aload_n 0, 1) := dec_42 (gB drcX5_isSheetSound_0 34 rfl rfl)
theorem dX5_isSheetSound_35 : decode cX5_isSheetSound 35 = .ok (.iload_n 1, 1) := dec_27 (gB drcX5_isSheetSound_0 35 rfl rfl)
theorem dX5_isSheetSound_36 : decode cX5_isSheetSound 36 = .ok (.iconst 0, 1) := dec_3 (gB drcX5_isSheetSound_0 36 rfl rfl)
theorem dX5_isSheetSound_37 : decode cX5_isSheetSound 37 = .ok (.invokevirtual 311, 3) := e_182 (x := 1) (y := 55) drcX5_isSheetSound_0 37 rfl rfl
theorem dX5_isSheetSound_40 : decode cX5_isSheetSound 40 = .ok (.aload_n 0, 1) := dec_42 (gB drcX5_isSheetSound_0 40 rfl rfl)
theorem dX5_isSheetSound_41 : decode cX5_isSheetSound 41 = .ok (.iload_n 1, 1) := dec_27 (gB drcX5_isSheetSound_0 41 rfl rfl)
theorem dX5_isSheetSound_42 : decode cX5_isSheetSound 42 = .ok (.iconst 1, 1) := dec_4 (gB drcX5_isSheetSound_0 42 rfl rfl)
theorem dX5_isSheetSound_43 : decode cX5_isSheetSound 43 = .ok (.invokevirtual 311, 3) := e_182 (x := 1) (y := 55) drcX5_isSheetSound_0 43 rfl rfl
theorem dX5_isSheetSound_46 : decode cX5_isSheetSound 46 = .ok (.iadd, 1) := dec_96 (gB drcX5_isSheetSound_0 46 rfl rfl)
theorem dX5_isSheetSound_47 : decode cX5_isSheetSound 47 = .ok (.aload_n 2, 1) := dec_44 (gB drcX5_isSheetSound_0 47 rfl rfl)
theorem dX5_isSheetSound_48 : decode cX5_isSheetSound 48 = .ok (.getfield 50, 3) := e_180 (x := 0) (y := 50) drcX5_isSheetSound_0 48 rfl rfl
theorem dX5_isSheetSound_51 : decode cX5_isSheetSound 51 = .ok (.if_icmp .ne 18, 3) := e_160 (x := 0) (y := 18) drcX5_isSheetSound_0 51 rfl rfl
theorem dX5_isSheetSound_54 : decode cX5_isSheetSound 54 = .ok (.aload_n 2, 1) := dec_44 (gB drcX5_isSheetSound_0 54 rfl rfl)
theorem dX5_isSheetSound_55 : decode cX5_isSheetSound 55 = .ok (.aload_n 0, 1) := dec_42 (gB drcX5_isSheetSound_0 55 rfl rfl)
theorem dX5_isSheetSound_56 : decode cX5_isSheetSound 56 = .ok (.getfield 33, 3) := e_180 (x := 0) (y := 33) drcX5_isSheetSound_0 56 rfl rfl
theorem dX5_isSheetSound_59 : decode cX5_isSheetSound 59 = .ok (.invokestatic 195, 3) := e_184 (x := 0) (y := 195) drcX5_isSheetSound_0 59 rfl rfl
theorem dX5_isSheetSound_62 : decode cX5_isSheetSound 62 = .ok (.ifCond .ne 7, 3) := dec_154 (a := 0) (b := 7) (gB drcX5_isSheetSound_0 62 rfl rfl) (gB drcX5_isSheetSound_0 63 rfl rfl) (gB drcX5_isSheetSound_1 0 rfl rfl)
theorem dX5_isSheetSound_65 : decode cX5_isSheetSound 65 = .ok (.iconst 1, 1) := dec_4 (gB drcX5_isSheetSound_1 1 rfl rfl)
theorem dX5_isSheetSound_66 : decode cX5_isSheetSound 66 = .ok (.goto 4, 3) := e_167 (x := 0) (y := 4) drcX5_isSheetSound_1 2 rfl rfl
theorem dX5_isSheetSound_69 : decode cX5_isSheetSound 69 = .ok (.iconst 0, 1) := dec_3 (gB drcX5_isSheetSound_1 5 rfl rfl)
theorem dX5_isSheetSound_70 : decode cX5_isSheetSound 70 = .ok (.ireturn, 1) := dec_172 (gB drcX5_isSheetSound_1 6 rfl rfl)
def lkcX5_isGrowthSound_0 : List UInt8 := [0x2a, 0x1b, 0xb6, 0x00, 0x8c, 0x4d, 0x2c, 0xb4, 0x00, 0xb2, 0x05, 0x70, 0x9a, 0x00, 0x07, 0x04, 0xa7, 0x00, 0x04, 0x02, 0x3e, 0x2c, 0xb4, 0x00, 0x90, 0xb4, 0x00, 0x32, 0x2c, 0xb4, 0x00, 0xf2, 0xb4, 0x00, 0x32, 0x60, 0x05, 0x64, 0x36, 0x04, 0x2c, 0x2a, 0xb4, 0x00, 0x21, 0x2a, 0xb4, 0x00, 0x1d, 0x2a, 0xb4, 0x00, 0x18, 0xb6, 0x00, 0x93, 0x2c, 0xb4, 0x00, 0x90, 0x2a, 0xb4, 0x00, 0x21]
def lkcX5_isGrowthSound_1 : List UInt8 := [0xb8, 0x00, 0xc3, 0x9a, 0x00, 0x07, 0x04, 0xa7, 0x00, 0x04, 0x03, 0x36, 0x05, 0x2c, 0x2a, 0xb4, 0x00, 0x21, 0xb6, 0x00, 0x97, 0x2c, 0xb4, 0x00, 0x90, 0x2a, 0xb4, 0x00, 0x21, 0xb8, 0x00, 0xc3, 0x9a, 0x00, 0x07, 0x04, 0xa7, 0x00, 0x04, 0x03, 0x36, 0x06, 0x15, 0x05, 0x99, 0x00, 0x1f, 0x15, 0x06, 0x99, 0x00, 0x1a, 0x2a, 0x1b, 0xb6, 0x01, 0x3b, 0x1d, 0xa0, 0x00, 0x11, 0x2a, 0x1b, 0xb6]
def lkcX5_isGrowthSound_2 : List UInt8 := [0x01, 0x3e, 0x15, 0x04, 0xa0, 0x00, 0x07, 0x04, 0xa7, 0x00, 0x04, 0x03, 0xac]
def tkcX5_isGrowthSound_2 : List UInt8 := lkcX5_isGrowthSound_2 ++ []
def tkcX5_isGrowthSound_1 : List UInt8 := lkcX5_isGrowthSound_1 ++ tkcX5_isGrowthSound_2
def tkcX5_isGrowthSound_0 : List UInt8 := lkcX5_isGrowthSound_0 ++ tkcX5_isGrowthSound_1
theorem drcX5_isGrowthSound_0 : (cX5_isGrowthSound).data.toList.drop 0 = lkcX5_isGrowthSound_0 ++ tkcX5_isGrowthSound_1 := by decide +kernel
theorem drcX5_isGrowthSound_1 : (cX5_isGrowthSound).data.toList.drop 64 = lkcX5_isGrowthSound_1 ++ tkcX5_isGrowthSound_2 := dr_step drcX5_isGrowthSound_0 rfl
theorem drcX5_isGrowthSound_2 : (cX5_isGrowthSound).data.toList.drop 128 = lkcX5_isGrowthSound_2 ++ [] := dr_step drcX5_isGrowthSound_1 rfl
theorem dX5_isGrowthSound_0 : decode cX5_isGrowthSound 0 = .ok (.aload_n 0, 1) := dec_42 (gB drcX5_isGrowthSound_0 0 rfl rfl)
theorem dX5_isGrowthSound_1 : decode cX5_isGrowthSound 1 = .ok (.iload_n 1, 1) := dec_27 (gB drcX5_isGrowthSound_0 1 rfl rfl)
theorem dX5_isGrowthSound_2 : decode cX5_isGrowthSound 2 = .ok (.invokevirtual 140, 3) := e_182 (x := 0) (y := 140) drcX5_isGrowthSound_0 2 rfl rfl
theorem dX5_isGrowthSound_5 : decode cX5_isGrowthSound 5 = .ok (.astore_n 2, 1) := dec_77 (gB drcX5_isGrowthSound_0 5 rfl rfl)
theorem dX5_isGrowthSound_6 : decode cX5_isGrowthSound 6 = .ok (.aload_n 2, 1) := dec_44 (gB drcX5_isGrowthSound_0 6 rfl rfl)
theorem dX5_isGrowthSound_7 : decode cX5_isGrowthSound 7 = .ok (.getfield 178, 3) := e_180 (x := 0) (y := 178) drcX5_isGrowthSound_0 7 rfl rfl
theorem dX5_isGrowthSound_10 : decode cX5_isGrowthSound 10 = .ok (.iconst 2, 1) := dec_5 (gB drcX5_isGrowthSound_0 10 rfl rfl)
theorem dX5_isGrowthSound_11 : decode cX5_isGrowthSound 11 = .ok (.irem, 1) := dec_112 (gB drcX5_isGrowthSound_0 11 rfl rfl)
theorem dX5_isGrowthSound_12 : decode cX5_isGrowthSound 12 = .ok (.ifCond .ne 7, 3) := e_154 (x := 0) (y := 7) drcX5_isGrowthSound_0 12 rfl rfl
theorem dX5_isGrowthSound_15 : decode cX5_isGrowthSound 15 = .ok (.iconst 1, 1) := dec_4 (gB drcX5_isGrowthSound_0 15 rfl rfl)
theorem dX5_isGrowthSound_16 : decode cX5_isGrowthSound 16 = .ok (.goto 4, 3) := e_167 (x := 0) (y := 4) drcX5_isGrowthSound_0 16 rfl rfl
theorem dX5_isGrowthSound_19 : decode cX5_isGrowthSound 19 = .ok (.iconst (-1), 1) := dec_2 (gB drcX5_isGrowthSound_0 19 rfl rfl)
theorem dX5_isGrowthSound_20 : decode cX5_isGrowthSound 20 = .ok (.istore_n 3, 1) := dec_62 (gB drcX5_isGrowthSound_0 20 rfl rfl)
theorem dX5_isGrowthSound_21 : decode cX5_isGrowthSound 21 = .ok (.aload_n 2, 1) := dec_44 (gB drcX5_isGrowthSound_0 21 rfl rfl)
theorem dX5_isGrowthSound_22 : decode cX5_isGrowthSound 22 = .ok (.getfield 144, 3) := e_180 (x := 0) (y := 144) drcX5_isGrowthSound_0 22 rfl rfl
theorem dX5_isGrowthSound_25 : decode cX5_isGrowthSound 25 = .ok (.getfield 50, 3) := e_180 (x := 0) (y := 50) drcX5_isGrowthSound_0 25 rfl rfl
theorem dX5_isGrowthSound_28 : decode cX5_isGrowthSound 28 = .ok (.aload_n 2, 1) := dec_44 (gB drcX5_isGrowthSound_0 28 rfl rfl)
theorem dX5_isGrowthSound_29 : decode cX5_isGrowthSound 29 = .ok (.getfield 242, 3) := e_180 (x := 0) (y := 242) drcX5_isGrowthSound_0 29 rfl rfl
theorem dX5_isGrowthSound_32 : decode cX5_isGrowthSound 32 = .ok (.getfield 50, 3) := e_180 (x := 0) (y := 50) drcX5_isGrowthSound_0 32 rfl rfl
theorem dX5_isGrowthSound_35 : decode cX5_isGrowthSound 35 = .ok (.iadd, 1) := dec_96 (gB drcX5_isGrowthSound_0 35 rfl rfl)
theorem dX5_isGrowthSound_36 : decode cX5_isGrowthSound 36 = .ok (.iconst 2, 1) := dec_5 (gB drcX5_isGrowthSound_0 36 rfl rfl)
theorem dX5_isGrowthSound_37 : decode cX5_isGrowthSound 37 = .ok (.isub, 1) := dec_100 (gB drcX5_isGrowthSound_0 37 rfl rfl)
theorem dX5_isGrowthSound_38 : decode cX5_isGrowthSound 38 = .ok (.istore 4, 2) := e_54 (x := 4) drcX5_isGrowthSound_0 38 rfl rfl
theorem dX5_isGrowthSound_40 : decode cX5_isGrowthSound 40 = .ok (.aload_n 2, 1) := dec_44 (gB drcX5_isGrowthSound_0 40 rfl rfl)
theorem dX5_isGrowthSound_41 : decode cX5_isGrowthSound 41 = .ok (.aload_n 0, 1) := dec_42 (gB drcX5_isGrowthSound_0 41 rfl rfl)
theorem dX5_isGrowthSound_42 : decode cX5_isGrowthSound 42 = .ok (.getfield 33, 3) := e_180 (x := 0) (y := 33) drcX5_isGrowthSound_0 42 rfl rfl
theorem dX5_isGrowthSound_45 : decode cX5_isGrowthSound 45 = .ok (.aload_n 0, 1) := dec_42 (gB drcX5_isGrowthSound_0 45 rfl rfl)
theorem dX5_isGrowthSound_46 : decode cX5_isGrowthSound 46 = .ok (.getfield 29, 3) := e_180 (x := 0) (y := 29) drcX5_isGrowthSound_0 46 rfl rfl
theorem dX5_isGrowthSound_49 : decode cX5_isGrowthSound 49 = .ok (.aload_n 0, 1) := dec_42 (gB drcX5_isGrowthSound_0 49 rfl rfl)
theorem dX5_isGrowthSound_50 : decode cX5_isGrowthSound 50 = .ok (.getfield 24, 3) := e_180 (x := 0) (y := 24) drcX5_isGrowthSound_0 50 rfl rfl
theorem dX5_isGrowthSound_53 : decode cX5_isGrowthSound 53 = .ok (.invokevirtual 147, 3) := e_182 (x := 0) (y := 147) drcX5_isGrowthSound_0 53 rfl rfl
theorem dX5_isGrowthSound_56 : decode cX5_isGrowthSound 56 = .ok (.aload_n 2, 1) := dec_44 (gB drcX5_isGrowthSound_0 56 rfl rfl)
theorem dX5_isGrowthSound_57 : decode cX5_isGrowthSound 57 = .ok (.getfield 144, 3) := e_180 (x := 0) (y := 144) drcX5_isGrowthSound_0 57 rfl rfl
theorem dX5_isGrowthSound_60 : decode cX5_isGrowthSound 60 = .ok (.aload_n 0, 1) := dec_42 (gB drcX5_isGrowthSound_0 60 rfl rfl)
theorem dX5_isGrowthSound_61 : decode cX5_isGrowthSound 61 = .ok (.getfield 33, 3) := e_180 (x := 0) (y := 33) drcX5_isGrowthSound_0 61 rfl rfl
theorem dX5_isGrowthSound_64 : decode cX5_isGrowthSound 64 = .ok (.invokestatic 195, 3) := e_184 (x := 0) (y := 195) drcX5_isGrowthSound_1 0 rfl rfl
theorem dX5_isGrowthSound_67 : decode cX5_isGrowthSound 67 = .ok (.ifCond .ne 7, 3) := e_154 (x := 0) (y := 7) drcX5_isGrowthSound_1 3 rfl rfl
theorem dX5_isGrowthSound_70 : decode cX5_isGrowthSound 70 = .ok (.iconst 1, 1) := dec_4 (gB drcX5_isGrowthSound_1 6 rfl rfl)
theorem dX5_isGrowthSound_71 : decode cX5_isGrowthSound 71 = .ok (.goto 4, 3) := e_167 (x := 0) (y := 4) drcX5_isGrowthSound_1 7 rfl rfl
theorem dX5_isGrowthSound_74 : decode cX5_isGrowthSound 74 = .ok (.iconst 0, 1) := dec_3 (gB drcX5_isGrowthSound_1 10 rfl rfl)
theorem dX5_isGrowthSound_75 : decode cX5_isGrowthSound 75 = .ok (.istore 5, 2) := e_54 (x := 5) drcX5_isGrowthSound_1 11 rfl rfl
theorem dX5_isGrowthSound_77 : decode cX5_isGrowthSound 77 = .ok (.aload_n 2, 1) := dec_44 (gB drcX5_isGrowthSound_1 13 rfl rfl)
theorem dX5_isGrowthSound_78 : decode cX5_isGrowthSound 78 = .ok (.aload_n 0, 1) := dec_42 (gB drcX5_isGrowthSound_1 14 rfl rfl)
theorem dX5_isGrowthSound_79 : decode cX5_isGrowthSound 79 = .ok (.getfield 33, 3) := e_180 (x := 0) (y := 33) drcX5_isGrowthSound_1 15 rfl rfl
theorem dX5_isGrowthSound_82 : decode cX5_isGrowthSound 82 = .ok (.invokevirtual 151, 3) := e_182 (x := 0) (y := 151) drcX5_isGrowthSound_1 18 rfl rfl
theorem dX5_isGrowthSound_85 : decode cX5_isGrowthSound 85 = .ok (.aload_n 2, 1) := dec_44 (gB drcX5_isGrowthSound_1 21 rfl rfl)
theorem dX5_isGrowthSound_86 : decode cX5_isGrowthSound 86 = .ok (.getfield 144, 3) := e_180 (x := 0) (y := 144) drcX5_isGrowthSound_1 22 rfl rfl
theorem dX5_isGrowthSound_89 : decode cX5_isGrowthSound 89 = .ok (.aload_n 0, 1) := dec_42 (gB drcX5_isGrowthSound_1 25 rfl rfl)
theorem dX5_isGrowthSound_90 : decode cX5_isGrowthSound 90 = .ok (.getfield 33, 3) := e_180 (x := 0) (y := 33) drcX5_isGrowthSound_1 26 rfl rfl
theorem dX5_isGrowthSound_93 : decode cX5_isGrowthSound 93 = .ok (.invokestatic 195, 3) := e_184 (x := 0) (y := 195) drcX5_isGrowthSound_1 29 rfl rfl
theorem dX5_isGrowthSound_96 : decode cX5_isGrowthSound 96 = .ok (.ifCond .ne 7, 3) := e_154 (x := 0) (y := 7) drcX5_isGrowthSound_1 32 rfl rfl
theorem dX5_isGrowthSound_99 : decode cX5_isGrowthSound 99 = .ok (.iconst 1, 1) := dec_4 (gB drcX5_isGrowthSound_1 35 rfl rfl)
theorem dX5_isGrowthSound_100 : decode cX5_isGrowthSound 100 = .ok (.goto 4, 3) := e_167 (x := 0) (y := 4) drcX5_isGrowthSound_1 36 rfl rfl
theorem dX5_isGrowthSound_103 : decode cX5_isGrowthSound 103 = .ok (.iconst 0, 1) := dec_3 (gB drcX5_isGrowthSound_1 39 rfl rfl)
theorem dX5_isGrowthSound_104 : decode cX5_isGrowthSound 104 = .ok (.istore 6, 2) := e_54 (x := 6) drcX5_isGrowthSound_1 40 rfl rfl
theorem dX5_isGrowthSound_106 : decode cX5_isGrowthSound 106 = .ok (.iload 5, 2) := e_21 (x := 5) drcX5_isGrowthSound_1 42 rfl rfl
theorem dX5_isGrowthSound_108 : decode cX5_isGrowthSound 108 = .ok (.ifCond .eq 31, 3) := e_153 (x := 0) (y := 31) drcX5_isGrowthSound_1 44 rfl rfl
theorem dX5_isGrowthSound_111 : decode cX5_isGrowthSound 111 = .ok (.iload 6, 2) := e_21 (x := 6) drcX5_isGrowthSound_1 47 rfl rfl
theorem dX5_isGrowthSound_113 : decode cX5_isGrowthSound 113 = .ok (.ifCond .eq 26, 3) := e_153 (x := 0) (y := 26) drcX5_isGrowthSound_1 49 rfl rfl
theorem dX5_isGrowthSound_116 : decode cX5_isGrowthSound 116 = .ok (.aload_n 0, 1) := dec_42 (gB drcX5_isGrowthSound_1 52 rfl rfl)
theorem dX5_isGrowthSound_117 : decode cX5_isGrowthSound 117 = .ok (.iload_n 1, 1) := dec_27 (gB drcX5_isGrowthSound_1 53 rfl rfl)
theorem dX5_isGrowthSound_118 : decode cX5_isGrowthSound 118 = .ok (.invokevirtual 315, 3) := e_182 (x := 1) (y := 59) drcX5_isGrowthSound_1 54 rfl rfl
theorem dX5_isGrowthSound_121 : decode cX5_isGrowthSound 121 = .ok (.iload_n 3, 1) := dec_29 (gB drcX5_isGrowthSound_1 57 rfl rfl)
theorem dX5_isGrowthSound_122 : decode cX5_isGrowthSound 122 = .ok (.if_icmp .ne 17, 3) := e_160 (x := 0) (y := 17) drcX5_isGrowthSound_1 58 rfl rfl
theorem dX5_isGrowthSound_125 : decode cX5_isGrowthSound 125 = .ok (.aload_n 0, 1) := dec_42 (gB drcX5_isGrowthSound_1 61 rfl rfl)
theorem dX5_isGrowthSound_126 : decode cX5_isGrowthSound 126 = .ok (.iload_n 1, 1) := dec_27 (gB drcX5_isGrowthSound_1 62 rfl rfl)
theorem dX5_isGrowthSound_127 : decode cX5_isGrowthSound 127 = .ok (.invokevirtual 318, 3) := dec_182 (a := 1) (b := 62) (gB drcX5_isGrowthSound_1 63 rfl rfl) (gB drcX5_isGrowthSound_2 0 rfl rfl) (gB drcX5_isGrowthSound_2 1 rfl rfl)
theorem dX5_isGrowthSound_130 : decode cX5_isGrowthSound 130 = .ok (.iload 4, 2) := e_21 (x := 4) drcX5_isGrowthSound_2 2 rfl rfl
theorem dX5_isGrowthSound_132 : decode cX5_isGrowthSound 132 = .ok (.if_icmp .ne 7, 3) := e_160 (x := 0) (y := 7) drcX5_isGrowthSound_2 4 rfl rfl
theorem dX5_isGrowthSound_135 : decode cX5_isGrowthSound 135 = .ok (.iconst 1, 1) := dec_4 (gB drcX5_isGrowthSound_2 7 rfl rfl)
theorem dX5_isGrowthSound_136 : decode cX5_isGrowthSound 136 = .ok (.goto 4, 3) := e_167 (x := 0) (y := 4) drcX5_isGrowthSound_2 8 rfl rfl
theorem dX5_isGrowthSound_139 : decode cX5_isGrowthSound 139 = .ok (.iconst 0, 1) := dec_3 (gB drcX5_isGrowthSound_2 11 rfl rfl)
theorem dX5_isGrowthSound_140 : decode cX5_isGrowthSound 140 = .ok (.ireturn, 1) := dec_172 (gB drcX5_isGrowthSound_2 12 rfl rfl)
def lkcX5_digestWith_0 : List UInt8 := [0x1e, 0x14, 0x01, 0x41, 0x69, 0x20, 0x61, 0xad]
def tkcX5_digestWith_0 : List UInt8 := lkcX5_digestWith_0 ++ []
theorem drcX5_digestWith_0 : (cX5_digestWith).data.toList.drop 0 = lkcX5_digestWith_0 ++ [] := by decide +kernel
theorem dX5_digestWith_0 : decode cX5_digestWith 0 = .ok (.lload_n 0, 1) := dec_30 (gB drcX5_digestWith_0 0 rfl rfl)
theorem dX5_digestWith_1 : decode cX5_digestWith 1 = .ok (.ldc2_w 321, 3) := e_20 (x := 1) (y := 65) drcX5_digestWith_0 1 rfl rfl
theorem dX5_digestWith_4 : decode cX5_digestWith 4 = .ok (.lmul, 1) := dec_105 (gB drcX5_digestWith_0 4 rfl rfl)
theorem dX5_digestWith_5 : decode cX5_digestWith 5 = .ok (.lload_n 2, 1) := dec_32 (gB drcX5_digestWith_0 5 rfl rfl)
theorem dX5_digestWith_6 : decode cX5_digestWith 6 = .ok (.ladd, 1) := dec_97 (gB drcX5_digestWith_0 6 rfl rfl)
theorem dX5_digestWith_7 : decode cX5_digestWith 7 = .ok (.lreturn, 1) := dec_173 (gB drcX5_digestWith_0 7 rfl rfl)
def lkcX5_digestSheet_0 : List UInt8 := [0x2a, 0x1d, 0xb6, 0x00, 0x25, 0x3a, 0x04, 0x1f, 0x19, 0x04, 0xb4, 0x00, 0x32, 0x85, 0xb8, 0x01, 0x16, 0x37, 0x05, 0x03, 0x36, 0x07, 0x15, 0x07, 0x19, 0x04, 0xb4, 0x00, 0x32, 0xa2, 0x00, 0x21, 0x16, 0x05, 0x19, 0x04, 0x15, 0x07, 0xb6, 0x00, 0x47, 0x99, 0x00, 0x09, 0x14, 0x01, 0x43, 0xa7, 0x00, 0x04, 0x0a, 0xb8, 0x01, 0x16, 0x37, 0x05, 0x84, 0x07, 0x01, 0xa7, 0xff, 0xdb, 0x16, 0x05]
def lkcX5_digestSheet_1 : List UInt8 := [0x2a, 0x1d, 0x04, 0xb6, 0x01, 0x37, 0x85, 0xb8, 0x01, 0x16, 0x37, 0x05, 0x16, 0x05, 0x2a, 0x1d, 0xb6, 0x01, 0x45, 0xb8, 0x00, 0x4f, 0x85, 0xb8, 0x01, 0x16, 0x37, 0x05, 0x16, 0x05, 0x2a, 0x1d, 0xb6, 0x01, 0x48, 0x85, 0xb8, 0x01, 0x16, 0x37, 0x05, 0x16, 0x05, 0x2a, 0x1d, 0xb6, 0x01, 0x4b, 0x85, 0xb8, 0x01, 0x16, 0x37, 0x05, 0x16, 0x05, 0x2a, 0x1d, 0xb6, 0x01, 0x4e, 0x85, 0xb8, 0x01]
def lkcX5_digestSheet_2 : List UInt8 := [0x16, 0x37, 0x05, 0x16, 0x05, 0x2a, 0x1d, 0xb6, 0x01, 0x51, 0x85, 0xb8, 0x01, 0x16, 0xad]
def tkcX5_digestSheet_2 : List UInt8 := lkcX5_digestSheet_2 ++ []
def tkcX5_digestSheet_1 : List UInt8 := lkcX5_digestSheet_1 ++ tkcX5_digestSheet_2
def tkcX5_digestSheet_0 : List UInt8 := lkcX5_digestSheet_0 ++ tkcX5_digestSheet_1
theorem drcX5_digestSheet_0 : (cX5_digestSheet).data.toList.drop 0 = lkcX5_digestSheet_0 ++ tkcX5_digestSheet_1 := by decide +kernel
theorem drcX5_digestSheet_1 : (cX5_digestSheet).data.toList.drop 64 = lkcX5_digestSheet_1 ++ tkcX5_digestSheet_2 := dr_step drcX5_digestSheet_0 rfl
theorem drcX5_digestSheet_2 : (cX5_digestSheet).data.toList.drop 128 = lkcX5_digestSheet_2 ++ [] := dr_step drcX5_digestSheet_1 rfl
theorem dX5_digestSheet_0 : decode cX5_digestSheet 0 = .ok (.aload_n 0, 1) := dec_42 (gB drcX5_digestSheet_0 0 rfl rfl)
theorem dX5_digestSheet_1 : decode cX5_digestSheet 1 = .ok (.iload_n 3, 1) := dec_29 (gB drcX5_digestSheet_0 1 rfl rfl)
theorem dX5_digestSheet_2 : decode cX5_digestSheet 2 = .ok (.invokevirtual 37, 3) := e_182 (x := 0) (y := 37) drcX5_digestSheet_0 2 rfl rfl
theorem dX5_digestSheet_5 : decode cX5_digestSheet 5 = .ok (.astore 4, 2) := e_58 (x := 4) drcX5_digestSheet_0 5 rfl rfl
theorem dX5_digestSheet_7 : decode cX5_digestSheet 7 = .ok (.lload_n 1, 1) := dec_31 (gB drcX5_digestSheet_0 7 rfl rfl)
theorem dX5_digestSheet_8 : decode cX5_digestSheet 8 = .ok (.aload 4, 2) := e_25 (x := 4) drcX5_digestSheet_0 8 rfl rfl
theorem dX5_digestSheet_10 : decode cX5_digestSheet 10 = .ok (.getfield 50, 3) := e_180 (x := 0) (y := 50) drcX5_digestSheet_0 10 rfl rfl
theorem dX5_digestSheet_13 : decode cX5_digestSheet 13 = .ok (.i2l, 1) := dec_133 (gB drcX5_digestSheet_0 13 rfl rfl)
theorem dX5_digestSheet_14 : decode cX5_digestSheet 14 = .ok (.invokestatic 278, 3) := e_184 (x := 1) (y := 22) drcX5_digestSheet_0 14 rfl rfl
theorem dX5_digestSheet_17 : decode cX5_digestSheet 17 = .ok (.lstore 5, 2) := e_55 (x := 5) drcX5_digestSheet_0 17 rfl rfl
theorem dX5_digestSheet_19 : decode cX5_digestSheet 19 = .ok (.iconst 0, 1) := dec_3 (gB drcX5_digestSheet_0 19 rfl rfl)
theorem dX5_digestSheet_20 : decode cX5_digestSheet 20 = .ok (.istore 7, 2) := e_54 (x := 7) drcX5_digestSheet_0 20 rfl rfl
theorem dX5_digestSheet_22 : decode cX5_digestSheet 22 = .ok (.iload 7, 2) := e_21 (x := 7) drcX5_digestSheet_0 22 rfl rfl
theorem dX5_digestSheet_24 : decode cX5_digestSheet 24 = .ok (.aload 4, 2) := e_25 (x := 4) drcX5_digestSheet_0 24 rfl rfl
theorem dX5_digestSheet_26 : decode cX5_digestSheet 26 = .ok (.getfield 50, 3) := e_180 (x := 0) (y := 50) drcX5_digestSheet_0 26 rfl rfl
theorem dX5_digestSheet_29 : decode cX5_digestSheet 29 = .ok (.if_icmp .ge 33, 3) := e_162 (x := 0) (y := 33) drcX5_digestSheet_0 29 rfl rfl
theorem dX5_digestSheet_32 : decode cX5_digestSheet 32 = .ok (.lload 5, 2) := e_22 (x := 5) drcX5_digestSheet_0 32 rfl rfl
theorem dX5_digestSheet_34 : decode cX5_digestSheet 34 = .ok (.aload 4, 2) := e_25 (x := 4) drcX5_digestSheet_0 34 rfl rfl
theorem dX5_digestSheet_36 : decode cX5_digestSheet 36 = .ok (.iload 7, 2) := e_21 (x := 7) drcX5_digestSheet_0 36 rfl rfl
theorem dX5_digestSheet_38 : decode cX5_digestSheet 38 = .ok (.invokevirtual 71, 3) := e_182 (x := 0) (y := 71) drcX5_digestSheet_0 38 rfl rfl
theorem dX5_digestSheet_41 : decode cX5_digestSheet 41 = .ok (.ifCond .eq 9, 3) := e_153 (x := 0) (y := 9) drcX5_digestSheet_0 41 rfl rfl
theorem dX5_digestSheet_44 : decode cX5_digestSheet 44 = .ok (.ldc2_w 323, 3) := e_20 (x := 1) (y := 67) drcX5_digestSheet_0 44 rfl rfl
theorem dX5_digestSheet_47 : decode cX5_digestSheet 47 = .ok (.goto 4, 3) := e_167 (x := 0) (y := 4) drcX5_digestSheet_0 47 rfl rfl
theorem dX5_digestSheet_50 : decode cX5_digestSheet 50 = .ok (.lconst 1, 1) := dec_10 (gB drcX5_digestSheet_0 50 rfl rfl)
theorem dX5_digestSheet_51 : decode cX5_digestSheet 51 = .ok (.invokestatic 278, 3) := e_184 (x := 1) (y := 22) drcX5_digestSheet_0 51 rfl rfl
theorem dX5_digestSheet_54 : decode cX5_digestSheet 54 = .ok (.lstore 5, 2) := e_55 (x := 5) drcX5_digestSheet_0 54 rfl rfl
theorem dX5_digestSheet_56 : decode cX5_digestSheet 56 = .ok (.iinc 7 1, 3) := e_132 (x := 7) (y := 1) drcX5_digestSheet_0 56 rfl rfl
theorem dX5_digestSheet_59 : decode cX5_digestSheet 59 = .ok (.goto (-37), 3) := e_167 (x := 255) (y := 219) drcX5_digestSheet_0 59 rfl rfl
theorem dX5_digestSheet_62 : decode cX5_digestSheet 62 = .ok (.lload 5, 2) := e_22 (x := 5) drcX5_digestSheet_0 62 rfl rfl
theorem dX5_digestSheet_64 : decode cX5_digestSheet 64 = .ok (.aload_n 0, 1) := dec_42 (gB drcX5_digestSheet_1 0 rfl rfl)
theorem dX5_digestSheet_65 : decode cX5_digestSheet 65 = .ok (.iload_n 3, 1) := dec_29 (gB drcX5_digestSheet_1 1 rfl rfl)
theorem dX5_digestSheet_66 : decode cX5_digestSheet 66 = .ok (.iconst 1, 1) := dec_4 (gB drcX5_digestSheet_1 2 rfl rfl)
theorem dX5_digestSheet_67 : decode cX5_digestSheet 67 = .ok (.invokevirtual 311, 3) := e_182 (x := 1) (y := 55) drcX5_digestSheet_1 3 rfl rfl
theorem dX5_digestSheet_70 : decode cX5_digestSheet 70 = .ok (.i2l, 1) := dec_133 (gB drcX5_digestSheet_1 6 rfl rfl)
theorem dX5_digestSheet_71 : decode cX5_digestSheet 71 = .ok (.invokestatic 278, 3) := e_184 (x := 1) (y := 22) drcX5_digestSheet_1 7 rfl rfl
theorem dX5_digestSheet_74 : decode cX5_digestSheet 74 = .ok (.lstore 5, 2) := e_55 (x := 5) drcX5_digestSheet_1 10 rfl rfl
theorem dX5_digestSheet_76 : decode cX5_digestSheet 76 = .ok (.lload 5, 2) := e_22 (x := 5) drcX5_digestSheet_1 12 rfl rfl
theorem dX5_digestSheet_78 : decode cX5_digestSheet 78 = .ok (.aload_n 0, 1) := dec_42 (gB drcX5_digestSheet_1 14 rfl rfl)
theorem dX5_digestSheet_79 : decode cX5_digestSheet 79 = .ok (.iload_n 3, 1) := dec_29 (gB drcX5_digestSheet_1 15 rfl rfl)
theorem dX5_digestSheet_80 : decode cX5_digestSheet 80 = .ok (.invokevirtual 325, 3) := e_182 (x := 1) (y := 69) drcX5_digestSheet_1 16 rfl rfl
theorem dX5_digestSheet_83 : decode cX5_digestSheet 83 = .ok (.invokestatic 79, 3) := e_184 (x := 0) (y := 79) drcX5_digestSheet_1 19 rfl rfl
theorem dX5_digestSheet_86 : decode cX5_digestSheet 86 = .ok (.i2l, 1) := dec_133 (gB drcX5_digestSheet_1 22 rfl rfl)
theorem dX5_digestSheet_87 : decode cX5_digestSheet 87 = .ok (.invokestatic 278, 3) := e_184 (x := 1) (y := 22) drcX5_digestSheet_1 23 rfl rfl
theorem dX5_digestSheet_90 : decode cX5_digestSheet 90 = .ok (.lstore 5, 2) := e_55 (x := 5) drcX5_digestSheet_1 26 rfl rfl
theorem dX5_digestSheet_92 : decode cX5_digestSheet 92 = .ok (.lload 5, 2) := e_22 (x := 5) drcX5_digestSheet_1 28 rfl rfl
theorem dX5_digestSheet_94 : decode cX5_digestSheet 94 = .ok (.aload_n 0, 1) := dec_42 (gB drcX5_digestSheet_1 30 rfl rfl)
theorem dX5_digestSheet_95 : decode cX5_digestSheet 95 = .ok (.iload_n 3, 1) := dec_29 (gB drcX5_digestSheet_1 31 rfl rfl)
theorem dX5_digestSheet_96 : decode cX5_digestSheet 96 = .ok (.invokevirtual 328, 3) := e_182 (x := 1) (y := 72) drcX5_digestSheet_1 32 rfl rfl
theorem dX5_digestSheet_99 : decode cX5_digestSheet 99 = .ok (.i2l, 1) := dec_133 (gB drcX5_digestSheet_1 35 rfl rfl)
theorem dX5_digestSheet_100 : decode cX5_digestSheet 100 = .ok (.invokestatic 278, 3) := e_184 (x := 1) (y := 22) drcX5_digestSheet_1 36 rfl rfl
theorem dX5_digestSheet_103 : decode cX5_digestSheet 103 = .ok (.lstore 5, 2) := e_55 (x := 5) drcX5_digestSheet_1 39 rfl rfl
theorem dX5_digestSheet_105 : decode cX5_digestSheet 105 = .ok (.lload 5, 2) := e_22 (x := 5) drcX5_digestSheet_1 41 rfl rfl
theorem dX5_digestSheet_107 : decode cX5_digestSheet 107 = .ok (.aload_n 0, 1) := dec_42 (gB drcX5_digestSheet_1 43 rfl rfl)
theorem dX5_digestSheet_108 : decode cX5_digestSheet 108 = .ok (.iload_n 3, 1) := dec_29 (gB drcX5_digestSheet_1 44 rfl rfl)
theorem dX5_digestSheet_109 : decode cX5_digestSheet 109 = .ok (.invokevirtual 331, 3) := e_182 (x := 1) (y := 75) drcX5_digestSheet_1 45 rfl rfl
theorem dX5_digestSheet_112 : decode cX5_digestSheet 112 = .ok (.i2l, 1) := dec_133 (gB drcX5_digestSheet_1 48 rfl rfl)
theorem dX5_digestSheet_113 : decode cX5_digestSheet 113 = .ok (.invokestatic 278, 3) := e_184 (x := 1) (y := 22) drcX5_digestSheet_1 49 rfl rfl
theorem dX5_digestSheet_116 : decode cX5_digestSheet 116 = .ok (.lstore 5, 2) := e_55 (x := 5) drcX5_digestSheet_1 52 rfl rfl
theorem dX5_digestSheet_118 : decode cX5_digestSheet 118 = .ok (.lload 5, 2) := e_22 (x := 5) drcX5_digestSheet_1 54 rfl rfl
theorem dX5_digestSheet_120 : decode cX5_digestSheet 120 = .ok (.aload_n 0, 1) := dec_42 (gB drcX5_digestSheet_1 56 rfl rfl)
theorem dX5_digestSheet_121 : decode cX5_digestSheet 121 = .ok (.iload_n 3, 1) := dec_29 (gB drcX5_digestSheet_1 57 rfl rfl)
theorem dX5_digestSheet_122 : decode cX5_digestSheet 122 = .ok (.invokevirtual 334, 3) := e_182 (x := 1) (y := 78) drcX5_digestSheet_1 58 rfl rfl
theorem dX5_digestSheet_125 : decode cX5_digestSheet 125 = .ok (.i2l, 1) := dec_133 (gB drcX5_digestSheet_1 61 rfl rfl)
theorem dX5_digestSheet_126 : decode cX5_digestSheet 126 = .ok (.invokestatic 278, 3) := dec_184 (a := 1) (b := 22) (gB drcX5_digestSheet_1 62 rfl rfl) (gB drcX5_digestSheet_1 63 rfl rfl) (gB drcX5_digestSheet_2 0 rfl rfl)
theorem dX5_digestSheet_129 : decode cX5_digestSheet 129 = .ok (.lstore 5, 2) := e_55 (x := 5) drcX5_digestSheet_2 1 rfl rfl
theorem dX5_digestSheet_131 : decode cX5_digestSheet 131 = .ok (.lload 5, 2) := e_22 (x := 5) drcX5_digestSheet_2 3 rfl rfl
theorem dX5_digestSheet_133 : decode cX5_digestSheet 133 = .ok (.aload_n 0, 1) := dec_42 (gB drcX5_digestSheet_2 5 rfl rfl)
theorem dX5_digestSheet_134 : decode cX5_digestSheet 134 = .ok (.iload_n 3, 1) := dec_29 (gB drcX5_digestSheet_2 6 rfl rfl)
theorem dX5_digestSheet_135 : decode cX5_digestSheet 135 = .ok (.invokevirtual 337, 3) := e_182 (x := 1) (y := 81) drcX5_digestSheet_2 7 rfl rfl
theorem dX5_digestSheet_138 : decode cX5_digestSheet 138 = .ok (.i2l, 1) := dec_133 (gB drcX5_digestSheet_2 10 rfl rfl)
theorem dX5_digestSheet_139 : decode cX5_digestSheet 139 = .ok (.invokestatic 278, 3) := e_184 (x := 1) (y := 22) drcX5_digestSheet_2 11 rfl rfl
theorem dX5_digestSheet_142 : decode cX5_digestSheet 142 = .ok (.lreturn, 1) := dec_173 (gB drcX5_digestSheet_2 14 rfl rfl)
def lkcX5_digestGrowth_0 : List UInt8 := [0x2a, 0x1d, 0xb6, 0x00, 0x8c, 0x3a, 0x04, 0x1f, 0x19, 0x04, 0xb4, 0x00, 0xb2, 0x85, 0xb8, 0x01, 0x16, 0x37, 0x05, 0x03, 0x36, 0x07, 0x15, 0x07, 0x19, 0x04, 0xb4, 0x00, 0xb2, 0xa2, 0x00, 0x18, 0x16, 0x05, 0x19, 0x04, 0x15, 0x07, 0xb6, 0x00, 0xe3, 0x85, 0xb8, 0x01, 0x16, 0x37, 0x05, 0x84, 0x07, 0x01, 0xa7, 0xff, 0xe4, 0x16, 0x05, 0x2a, 0x1d, 0x03, 0xb6, 0x01, 0x54, 0x85, 0xb8, 0x01]
def lkcX5_digestGrowth_1 : List UInt8 := [0x16, 0x37, 0x05, 0x16, 0x05, 0x2a, 0x1d, 0x04, 0xb6, 0x01, 0x54, 0x85, 0xb8, 0x01, 0x16, 0x37, 0x05, 0x16, 0x05, 0x2a, 0x1d, 0x03, 0xb6, 0x01, 0x57, 0x85, 0xb8, 0x01, 0x16, 0x37, 0x05, 0x16, 0x05, 0x2a, 0x1d, 0x04, 0xb6, 0x01, 0x57, 0x85, 0xb8, 0x01, 0x16, 0x37, 0x05, 0x16, 0x05, 0x2a, 0x1d, 0xb6, 0x01, 0x3b, 0x85, 0xb8, 0x01, 0x16, 0x37, 0x05, 0x16, 0x05, 0x2a, 0x1d, 0xb6, 0x01]
def lkcX5_digestGrowth_2 : List UInt8 := [0x3e, 0x85, 0xb8, 0x01, 0x16, 0xad]
def tkcX5_digestGrowth_2 : List UInt8 := lkcX5_digestGrowth_2 ++ []
def tkcX5_digestGrowth_1 : List UInt8 := lkcX5_digestGrowth_1 ++ tkcX5_digestGrowth_2
def tkcX5_digestGrowth_0 : List UInt8 := lkcX5_digestGrowth_0 ++ tkcX5_digestGrowth_1
theorem drcX5_digestGrowth_0 : (cX5_digestGrowth).data.toList.drop 0 = lkcX5_digestGrowth_0 ++ tkcX5_digestGrowth_1 := by decide +kernel
theorem drcX5_digestGrowth_1 : (cX5_digestGrowth).data.toList.drop 64 = lkcX5_digestGrowth_1 ++ tkcX5_digestGrowth_2 := dr_step drcX5_digestGrowth_0 rfl
theorem drcX5_digestGrowth_2 : (cX5_digestGrowth).data.toList.drop 128 = lkcX5_digestGrowth_2 ++ [] := dr_step drcX5_digestGrowth_1 rfl
theorem dX5_digestGrowth_0 : decode cX5_digestGrowth 0 = .ok (.aload_n 0, 1) := dec_42 (gB drcX5_digestGrowth_0 0 rfl rfl)
theorem dX5_digestGrowth_1 : decode cX5_digestGrowth 1 = .ok (.iload_n 3, 1) := dec_29 (gB drcX5_digestGrowth_0 1 rfl rfl)
theorem dX5_digestGrowth_2 : decode cX5_digestGrowth 2 = .ok (.invokevirtual 140, 3) := e_182 (x := 0) (y := 140) drcX5_digestGrowth_0 2 rfl rfl
theorem dX5_digestGrowth_5 : decode cX5_digestGrowth 5 = .ok (.astore 4, 2) := e_58 (x := 4) drcX5_digestGrowth_0 5 rfl rfl
theorem dX5_digestGrowth_7 : decode cX5_digestGrowth 7 = .ok (.lload_n 1, 1) := dec_31 (gB drcX5_digestGrowth_0 7 rfl rfl)
theorem dX5_digestGrowth_8 : decode cX5_digestGrowth 8 = .ok (.aload 4, 2) := e_25 (x := 4) drcX5_digestGrowth_0 8 rfl rfl
theorem dX5_digestGrowth_10 : decode cX5_digestGrowth 10 = .ok (.getfield 178, 3) := e_180 (x := 0) (y := 178) drcX5_digestGrowth_0 10 rfl rfl
theorem dX5_digestGrowth_13 : decode cX5_digestGrowth 13 = .ok (.i2l, 1) := dec_133 (gB drcX5_digestGrowth_0 13 rfl rfl)
theorem dX5_digestGrowth_14 : decode cX5_digestGrowth 14 = .ok (.invokestatic 278, 3) := e_184 (x := 1) (y := 22) drcX5_digestGrowth_0 14 rfl rfl
theorem dX5_digestGrowth_17 : decode cX5_digestGrowth 17 = .ok (.lstore 5, 2) := e_55 (x := 5) drcX5_digestGrowth_0 17 rfl rfl
theorem dX5_digestGrowth_19 : decode cX5_digestGrowth 19 = .ok (.iconst 0, 1) := dec_3 (gB drcX5_digestGrowth_0 19 rfl rfl)
theorem dX5_digestGrowth_20 : decode cX5_digestGrowth 20 = .ok (.istore 7, 2) := e_54 (x := 7) drcX5_digestGrowth_0 20 rfl rfl
theorem dX5_digestGrowth_22 : decode cX5_digestGrowth 22 = .ok (.iload 7, 2) := e_21 (x := 7) drcX5_digestGrowth_0 22 rfl rfl
theorem dX5_digestGrowth_24 : decode cX5_digestGrowth 24 = .ok (.aload 4, 2) := e_25 (x := 4) drcX5_digestGrowth_0 24 rfl rfl
theorem dX5_digestGrowth_26 : decode cX5_digestGrowth 26 = .ok (.getfield 178, 3) := e_180 (x := 0) (y := 178) drcX5_digestGrowth_0 26 rfl rfl
theorem dX5_digestGrowth_29 : decode cX5_digestGrowth 29 = .ok (.if_icmp .ge 24, 3) := e_162 (x := 0) (y := 24) drcX5_digestGrowth_0 29 rfl rfl
theorem dX5_digestGrowth_32 : decode cX5_digestGrowth 32 = .ok (.lload 5, 2) := e_22 (x := 5) drcX5_digestGrowth_0 32 rfl rfl
theorem dX5_digestGrowth_34 : decode cX5_digestGrowth 34 = .ok (.aload 4, 2) := e_25 (x := 4) drcX5_digestGrowth_0 34 rfl rfl
theorem dX5_digestGrowth_36 : decode cX5_digestGrowth 36 = .ok (.iload 7, 2) := e_21 (x := 7) drcX5_digestGrowth_0 36 rfl rfl
theorem dX5_digestGrowth_38 : decode cX5_digestGrowth 38 = .ok (.invokevirtual 227, 3) := e_182 (x := 0) (y := 227) drcX5_digestGrowth_0 38 rfl rfl
theorem dX5_digestGrowth_41 : decode cX5_digestGrowth 41 = .ok (.i2l, 1) := dec_133 (gB drcX5_digestGrowth_0 41 rfl rfl)
theorem dX5_digestGrowth_42 : decode cX5_digestGrowth 42 = .ok (.invokestatic 278, 3) := e_184 (x := 1) (y := 22) drcX5_digestGrowth_0 42 rfl rfl
theorem dX5_digestGrowth_45 : decode cX5_digestGrowth 45 = .ok (.lstore 5, 2) := e_55 (x := 5) drcX5_digestGrowth_0 45 rfl rfl
theorem dX5_digestGrowth_47 : decode cX5_digestGrowth 47 = .ok (.iinc 7 1, 3) := e_132 (x := 7) (y := 1) drcX5_digestGrowth_0 47 rfl rfl
theorem dX5_digestGrowth_50 : decode cX5_digestGrowth 50 = .ok (.goto (-28), 3) := e_167 (x := 255) (y := 228) drcX5_digestGrowth_0 50 rfl rfl
theorem dX5_digestGrowth_53 : decode cX5_digestGrowth 53 = .ok (.lload 5, 2) := e_22 (x := 5) drcX5_digestGrowth_0 53 rfl rfl
theorem dX5_digestGrowth_55 : decode cX5_digestGrowth 55 = .ok (.aload_n 0, 1) := dec_42 (gB drcX5_digestGrowth_0 55 rfl rfl)
theorem dX5_digestGrowth_56 : decode cX5_digestGrowth 56 = .ok (.iload_n 3, 1) := dec_29 (gB drcX5_digestGrowth_0 56 rfl rfl)
theorem dX5_digestGrowth_57 : decode cX5_digestGrowth 57 = .ok (.iconst 0, 1) := dec_3 (gB drcX5_digestGrowth_0 57 rfl rfl)
theorem dX5_digestGrowth_58 : decode cX5_digestGrowth 58 = .ok (.invokevirtual 340, 3) := e_182 (x := 1) (y := 84) drcX5_digestGrowth_0 58 rfl rfl
theorem dX5_digestGrowth_61 : decode cX5_digestGrowth 61 = .ok (.i2l, 1) := dec_133 (gB drcX5_digestGrowth_0 61 rfl rfl)
theorem dX5_digestGrowth_62 : decode cX5_digestGrowth 62 = .ok (.invokestatic 278, 3) := dec_184 (a := 1) (b := 22) (gB drcX5_digestGrowth_0 62 rfl rfl) (gB drcX5_digestGrowth_0 63 rfl rfl) (gB drcX5_digestGrowth_1 0 rfl rfl)
theorem dX5_digestGrowth_65 : decode cX5_digestGrowth 65 = .ok (.lstore 5, 2) := e_55 (x := 5) drcX5_digestGrowth_1 1 rfl rfl
theorem dX5_digestGrowth_67 : decode cX5_digestGrowth 67 = .ok (.lload 5, 2) := e_22 (x := 5) drcX5_digestGrowth_1 3 rfl rfl
theorem dX5_digestGrowth_69 : decode cX5_digestGrowth 69 = .ok (.aload_n 0, 1) := dec_42 (gB drcX5_digestGrowth_1 5 rfl rfl)
theorem dX5_digestGrowth_70 : decode cX5_digestGrowth 70 = .ok (.iload_n 3, 1) := dec_29 (gB drcX5_digestGrowth_1 6 rfl rfl)
theorem dX5_digestGrowth_71 : decode cX5_digestGrowth 71 = .ok (.iconst 1, 1) := dec_4 (gB drcX5_digestGrowth_1 7 rfl rfl)
theorem dX5_digestGrowth_72 : decode cX5_digestGrowth 72 = .ok (.invokevirtual 340, 3) := e_182 (x := 1) (y := 84) drcX5_digestGrowth_1 8 rfl rfl
theorem dX5_digestGrowth_75 : decode cX5_digestGrowth 75 = .ok (.i2l, 1) := dec_133 (gB drcX5_digestGrowth_1 11 rfl rfl)
theorem dX5_digestGrowth_76 : decode cX5_digestGrowth 76 = .ok (.invokestatic 278, 3) := e_184 (x := 1) (y := 22) drcX5_digestGrowth_1 12 rfl rfl
theorem dX5_digestGrowth_79 : decode cX5_digestGrowth 79 = .ok (.lstore 5, 2) := e_55 (x := 5) drcX5_digestGrowth_1 15 rfl rfl
theorem dX5_digestGrowth_81 : decode cX5_digestGrowth 81 = .ok (.lload 5, 2) := e_22 (x := 5) drcX5_digestGrowth_1 17 rfl rfl
theorem dX5_digestGrowth_83 : decode cX5_digestGrowth 83 = .ok (.aload_n 0, 1) := dec_42 (gB drcX5_digestGrowth_1 19 rfl rfl)
theorem dX5_digestGrowth_84 : decode cX5_digestGrowth 84 = .ok (.iload_n 3, 1) := dec_29 (gB drcX5_digestGrowth_1 20 rfl rfl)
theorem dX5_digestGrowth_85 : decode cX5_digestGrowth 85 = .ok (.iconst 0, 1) := dec_3 (gB drcX5_digestGrowth_1 21 rfl rfl)
theorem dX5_digestGrowth_86 : decode cX5_digestGrowth 86 = .ok (.invokevirtual 343, 3) := e_182 (x := 1) (y := 87) drcX5_digestGrowth_1 22 rfl rfl
theorem dX5_digestGrowth_89 : decode cX5_digestGrowth 89 = .ok (.i2l, 1) := dec_133 (gB drcX5_digestGrowth_1 25 rfl rfl)
theorem dX5_digestGrowth_90 : decode cX5_digestGrowth 90 = .ok (.invokestatic 278, 3) := e_184 (x := 1) (y := 22) drcX5_digestGrowth_1 26 rfl rfl
theorem dX5_digestGrowth_93 : decode cX5_digestGrowth 93 = .ok (.lstore 5, 2) := e_55 (x := 5) drcX5_digestGrowth_1 29 rfl rfl
theorem dX5_digestGrowth_95 : decode cX5_digestGrowth 95 = .ok (.lload 5, 2) := e_22 (x := 5) drcX5_digestGrowth_1 31 rfl rfl
theorem dX5_digestGrowth_97 : decode cX5_digestGrowth 97 = .ok (.aload_n 0, 1) := dec_42 (gB drcX5_digestGrowth_1 33 rfl rfl)
theorem dX5_digestGrowth_98 : decode cX5_digestGrowth 98 = .ok (.iload_n 3, 1) := dec_29 (gB drcX5_digestGrowth_1 34 rfl rfl)
theorem dX5_digestGrowth_99 : decode cX5_digestGrowth 99 = .ok (.iconst 1, 1) := dec_4 (gB drcX5_digestGrowth_1 35 rfl rfl)
theorem dX5_digestGrowth_100 : decode cX5_digestGrowth 100 = .ok (.invokevirtual 343, 3) := e_182 (x := 1) (y := 87) drcX5_digestGrowth_1 36 rfl rfl
theorem dX5_digestGrowth_103 : decode cX5_digestGrowth 103 = .ok (.i2l, 1) := dec_133 (gB drcX5_digestGrowth_1 39 rfl rfl)
theorem dX5_digestGrowth_104 : decode cX5_digestGrowth 104 = .ok (.invokestatic 278, 3) := e_184 (x := 1) (y := 22) drcX5_digestGrowth_1 40 rfl rfl
theorem dX5_digestGrowth_107 : decode cX5_digestGrowth 107 = .ok (.lstore 5, 2) := e_55 (x := 5) drcX5_digestGrowth_1 43 rfl rfl
theorem dX5_digestGrowth_109 : decode cX5_digestGrowth 109 = .ok (.lload 5, 2) := e_22 (x := 5) drcX5_digestGrowth_1 45 rfl rfl
theorem dX5_digestGrowth_111 : decode cX5_digestGrowth 111 = .ok (.aload_n 0, 1) := dec_42 (gB drcX5_digestGrowth_1 47 rfl rfl)
theorem dX5_digestGrowth_112 : decode cX5_digestGrowth 112 = .ok (.iload_n 3, 1) := dec_29 (gB drcX5_digestGrowth_1 48 rfl rfl)
theorem dX5_digestGrowth_113 : decode cX5_digestGrowth 113 = .ok (.invokevirtual 315, 3) := e_182 (x := 1) (y := 59) drcX5_digestGrowth_1 49 rfl rfl
theorem dX5_digestGrowth_116 : decode cX5_digestGrowth 116 = .ok (.i2l, 1) := dec_133 (gB drcX5_digestGrowth_1 52 rfl rfl)
theorem dX5_digestGrowth_117 : decode cX5_digestGrowth 117 = .ok (.invokestatic 278, 3) := e_184 (x := 1) (y := 22) drcX5_digestGrowth_1 53 rfl rfl
theorem dX5_digestGrowth_120 : decode cX5_digestGrowth 120 = .ok (.lstore 5, 2) := e_55 (x := 5) drcX5_digestGrowth_1 56 rfl rfl
theorem dX5_digestGrowth_122 : decode cX5_digestGrowth 122 = .ok (.lload 5, 2) := e_22 (x := 5) drcX5_digestGrowth_1 58 rfl rfl
theorem dX5_digestGrowth_124 : decode cX5_digestGrowth 124 = .ok (.aload_n 0, 1) := dec_42 (gB drcX5_digestGrowth_1 60 rfl rfl)
theorem dX5_digestGrowth_125 : decode cX5_digestGrowth 125 = .ok (.iload_n 3, 1) := dec_29 (gB drcX5_digestGrowth_1 61 rfl rfl)
theorem dX5_digestGrowth_126 : decode cX5_digestGrowth 126 = .ok (.invokevirtual 318, 3) := dec_182 (a := 1) (b := 62) (gB drcX5_digestGrowth_1 62 rfl rfl) (gB drcX5_digestGrowth_1 63 rfl rfl) (gB drcX5_digestGrowth_2 0 rfl rfl)
theorem dX5_digestGrowth_129 : decode cX5_digestGrowth 129 = .ok (.i2l, 1) := dec_133 (gB drcX5_digestGrowth_2 1 rfl rfl)
theorem dX5_digestGrowth_130 : decode cX5_digestGrowth 130 = .ok (.invokestatic 278, 3) := e_184 (x := 1) (y := 22) drcX5_digestGrowth_2 2 rfl rfl
theorem dX5_digestGrowth_133 : decode cX5_digestGrowth 133 = .ok (.lreturn, 1) := dec_173 (gB drcX5_digestGrowth_2 5 rfl rfl)
def lkcX6_init_0 : List UInt8 := [0x2a, 0xb7, 0x00, 0x01, 0xb1]
def tkcX6_init_0 : List UInt8 := lkcX6_init_0 ++ []
theorem drcX6_init_0 : (cX6_init).data.toList.drop 0 = lkcX6_init_0 ++ [] := by decide +kernel
theorem dX6_init_0 : decode cX6_init 0 = .ok (.aload_n 0, 1) := dec_42 (gB drcX6_init_0 0 rfl rfl)
theorem dX6_init_1 : decode cX6_init 1 = .ok (.invokespecial 1, 3) := e_183 (x := 0) (y := 1) drcX6_init_0 1 rfl rfl
theorem dX6_init_4 : decode cX6_init 4 = .ok (.return_, 1) := dec_177 (gB drcX6_init_0 4 rfl rfl)
def lkcX7_init_0 : List UInt8 := [0x2a, 0xb7, 0x00, 0x01, 0x2a, 0x06, 0xbd, 0x00, 0x07, 0x59, 0x03, 0x03, 0xbc, 0x0a, 0x53, 0x59, 0x04, 0x03, 0xbc, 0x0a, 0x53, 0x59, 0x05, 0x03, 0xbc, 0x0a, 0x53, 0xb5, 0x00, 0x09, 0x2a, 0x05, 0xbd, 0x00, 0x07, 0x59, 0x03, 0x10, 0x40, 0xbc, 0x0a, 0x53, 0x59, 0x04, 0x10, 0x40, 0xbc, 0x0a, 0x53, 0xb5, 0x00, 0x0f, 0x2a, 0x05, 0xbc, 0x0a, 0xb5, 0x00, 0x12, 0xb1]
def tkcX7_init_0 : List UInt8 := lkcX7_init_0 ++ []
theorem drcX7_init_0 : (cX7_init).data.toList.drop 0 = lkcX7_init_0 ++ [] := by decide +kernel
theorem dX7_init_0 : decode cX7_init 0 = .ok (.aload_n 0, 1) := dec_42 (gB drcX7_init_0 0 rfl rfl)
theorem dX7_init_1 : decode cX7_init 1 = .ok (.invokespecial 1, 3) := e_183 (x := 0) (y := 1) drcX7_init_0 1 rfl rfl
theorem dX7_init_4 : decode cX7_init 4 = .ok (.aload_n 0, 1) := dec_42 (gB drcX7_init_0 4 rfl rfl)
theorem dX7_init_5 : decode cX7_init 5 = .ok (.iconst 3, 1) := dec_6 (gB drcX7_init_0 5 rfl rfl)
theorem dX7_init_6 : decode cX7_init 6 = .ok (.anewarray 7, 3) := e_189 (x := 0) (y := 7) drcX7_init_0 6 rfl rfl
theorem dX7_init_9 : decode cX7_init 9 = .ok (.dup, 1) := dec_89 (gB drcX7_init_0 9 rfl rfl)
theorem dX7_init_10 : decode cX7_init 10 = .ok (.iconst 0, 1) := dec_3 (gB drcX7_init_0 10 rfl rfl)
theorem dX7_init_11 : decode cX7_init 11 = .ok (.iconst 0, 1) := dec_3 (gB drcX7_init_0 11 rfl rfl)
theorem dX7_init_12 : decode cX7_init 12 = .ok (.newarray .int, 2) := by decide +kernel
theorem dX7_init_14 : decode cX7_init 14 = .ok (.aastore, 1) := dec_83 (gB drcX7_init_0 14 rfl rfl)
theorem dX7_init_15 : decode cX7_init 15 = .ok (.dup, 1) := dec_89 (gB drcX7_init_0 15 rfl rfl)
theorem dX7_init_16 : decode cX7_init 16 = .ok (.iconst 1, 1) := dec_4 (gB drcX7_init_0 16 rfl rfl)
theorem dX7_init_17 : decode cX7_init 17 = .ok (.iconst 0, 1) := dec_3 (gB drcX7_init_0 17 rfl rfl)
theorem dX7_init_18 : decode cX7_init 18 = .ok (.newarray .int, 2) := by decide +kernel
theorem dX7_init_20 : decode cX7_init 20 = .ok (.aastore, 1) := dec_83 (gB drcX7_init_0 20 rfl rfl)
theorem dX7_init_21 : decode cX7_init 21 = .ok (.dup, 1) := dec_89 (gB drcX7_init_0 21 rfl rfl)
theorem dX7_init_22 : decode cX7_init 22 = .ok (.iconst 2, 1) := dec_5 (gB drcX7_init_0 22 rfl rfl)
theorem dX7_init_23 : decode cX7_init 23 = .ok (.iconst 0, 1) := dec_3 (gB drcX7_init_0 23 rfl rfl)
theorem dX7_init_24 : decode cX7_init 24 = .ok (.newarray .int, 2) := by decide +kernel
theorem dX7_init_26 : decode cX7_init 26 = .ok (.aastore, 1) := dec_83 (gB drcX7_init_0 26 rfl rfl)
theorem dX7_init_27 : decode cX7_init 27 = .ok (.putfield 9, 3) := e_181 (x := 0) (y := 9) drcX7_init_0 27 rfl rfl
theorem dX7_init_30 : decode cX7_init 30 = .ok (.aload_n 0, 1) := dec_42 (gB drcX7_init_0 30 rfl rfl)
theorem dX7_init_31 : decode cX7_init 31 = .ok (.iconst 2, 1) := dec_5 (gB drcX7_init_0 31 rfl rfl)
theorem dX7_init_32 : decode cX7_init 32 = .ok (.anewarray 7, 3) := e_189 (x := 0) (y := 7) drcX7_init_0 32 rfl rfl
theorem dX7_init_35 : decode cX7_init 35 = .ok (.dup, 1) := dec_89 (gB drcX7_init_0 35 rfl rfl)
theorem dX7_init_36 : decode cX7_init 36 = .ok (.iconst 0, 1) := dec_3 (gB drcX7_init_0 36 rfl rfl)
theorem dX7_init_37 : decode cX7_init 37 = .ok (.bipush 64, 2) := e_16 (x := 64) drcX7_init_0 37 rfl rfl
theorem dX7_init_39 : decode cX7_init 39 = .ok (.newarray .int, 2) := by decide +kernel
theorem dX7_init_41 : decode cX7_init 41 = .ok (.aastore, 1) := dec_83 (gB drcX7_init_0 41 rfl rfl)
theorem dX7_init_42 : decode cX7_init 42 = .ok (.dup, 1) := dec_89 (gB drcX7_init_0 42 rfl rfl)
theorem dX7_init_43 : decode cX7_init 43 = .ok (.iconst 1, 1) := dec_4 (gB drcX7_init_0 43 rfl rfl)
theorem dX7_init_44 : decode cX7_init 44 = .ok (.bipush 64, 2) := e_16 (x := 64) drcX7_init_0 44 rfl rfl
theorem dX7_init_46 : decode cX7_init 46 = .ok (.newarray .int, 2) := by decide +kernel
theorem dX7_init_48 : decode cX7_init 48 = .ok (.aastore, 1) := dec_83 (gB drcX7_init_0 48 rfl rfl)
theorem dX7_init_49 : decode cX7_init 49 = .ok (.putfield 15, 3) := e_181 (x := 0) (y := 15) drcX7_init_0 49 rfl rfl
theorem dX7_init_52 : decode cX7_init 52 = .ok (.aload_n 0, 1) := dec_42 (gB drcX7_init_0 52 rfl rfl)
theorem dX7_init_53 : decode cX7_init 53 = .ok (.iconst 2, 1) := dec_5 (gB drcX7_init_0 53 rfl rfl)
theorem dX7_init_54 : decode cX7_init 54 = .ok (.newarray .int, 2) := by decide +kernel
theorem dX7_init_56 : decode cX7_init 56 = .ok (.putfield 18, 3) := e_181 (x := 0) (y := 18) drcX7_init_0 56 rfl rfl
theorem dX7_init_59 : decode cX7_init 59 = .ok (.return_, 1) := dec_177 (gB drcX7_init_0 59 rfl rfl)
def lkcX7_thrown_0 : List UInt8 := [0x2a, 0xb4, 0x00, 0x15, 0xac]
def tkcX7_thrown_0 : List UInt8 := lkcX7_thrown_0 ++ []
theorem drcX7_thrown_0 : (cX7_thrown).data.toList.drop 0 = lkcX7_thrown_0 ++ [] := by decide +kernel
theorem dX7_thrown_0 : decode cX7_thrown 0 = .ok (.aload_n 0, 1) := dec_42 (gB drcX7_thrown_0 0 rfl rfl)
theorem dX7_thrown_1 : decode cX7_thrown 1 = .ok (.getfield 21, 3) := e_180 (x := 0) (y := 21) drcX7_thrown_0 1 rfl rfl
theorem dX7_thrown_4 : decode cX7_thrown 4 = .ok (.ireturn, 1) := dec_172 (gB drcX7_thrown_0 4 rfl rfl)
def lkcX7_isIn_0 : List UInt8 := [0x1a, 0x1b, 0xa1, 0x00, 0x0c, 0x1a, 0x1c, 0xa3, 0x00, 0x07, 0x04, 0xa7, 0x00, 0x04, 0x03, 0xac]
def tkcX7_isIn_0 : List UInt8 := lkcX7_isIn_0 ++ []
theorem drcX7_isIn_0 : (cX7_isIn).data.toList.drop 0 = lkcX7_isIn_0 ++ [] := by decide +kernel
theorem dX7_isIn_0 : decode cX7_isIn 0 = .ok (.iload_n 0, 1) := dec_26 (gB drcX7_isIn_0 0 rfl rfl)
theorem dX7_isIn_1 : decode cX7_isIn 1 = .ok (.iload_n 1, 1) := dec_27 (gB drcX7_isIn_0 1 rfl rfl)
theorem dX7_isIn_2 : decode cX7_isIn 2 = .ok (.if_icmp .lt 12, 3) := e_161 (x := 0) (y := 12) drcX7_isIn_0 2 rfl rfl
theorem dX7_isIn_5 : decode cX7_isIn 5 = .ok (.iload_n 0, 1) := dec_26 (gB drcX7_isIn_0 5 rfl rfl)
theorem dX7_isIn_6 : decode cX7_isIn 6 = .ok (.iload_n 2, 1) := dec_28 (gB drcX7_isIn_0 6 rfl rfl)
theorem dX7_isIn_7 : decode cX7_isIn 7 = .ok (.if_icmp .gt 7, 3) := e_163 (x := 0) (y := 7) drcX7_isIn_0 7 rfl rfl
theorem dX7_isIn_10 : decode cX7_isIn 10 = .ok (.iconst 1, 1) := dec_4 (gB drcX7_isIn_0 10 rfl rfl)
theorem dX7_isIn_11 : decode cX7_isIn 11 = .ok (.goto 4, 3) := e_167 (x := 0) (y := 4) drcX7_isIn_0 11 rfl rfl
theorem dX7_isIn_14 : decode cX7_isIn 14 = .ok (.iconst 0, 1) := dec_3 (gB drcX7_isIn_0 14 rfl rfl)
theorem dX7_isIn_15 : decode cX7_isIn 15 = .ok (.ireturn, 1) := dec_172 (gB drcX7_isIn_0 15 rfl rfl)
def lkcX7_refuse_0 : List UInt8 := [0x1b, 0x99, 0x00, 0x0f, 0x2a, 0xb4, 0x00, 0x15, 0x9a, 0x00, 0x08, 0x2a, 0x1c, 0xb5, 0x00, 0x15, 0x2a, 0xb4, 0x00, 0x15, 0x9e, 0x00, 0x07, 0x04, 0xa7, 0x00, 0x04, 0x03, 0xac]
def tkcX7_refuse_0 : List UInt8 := lkcX7_refuse_0 ++ []
theorem drcX7_refuse_0 : (cX7_refuse).data.toList.drop 0 = lkcX7_refuse_0 ++ [] := by decide +kernel
theorem dX7_refuse_0 : decode cX7_refuse 0 = .ok (.iload_n 1, 1) := dec_27 (gB drcX7_refuse_0 0 rfl rfl)
theorem dX7_refuse_1 : decode cX7_refuse 1 = .ok (.ifCond .eq 15, 3) := e_153 (x := 0) (y := 15) drcX7_refuse_0 1 rfl rfl
theorem dX7_refuse_4 : decode cX7_refuse 4 = .ok (.aload_n 0, 1) := dec_42 (gB drcX7_refuse_0 4 rfl rfl)
theorem dX7_refuse_5 : decode cX7_refuse 5 = .ok (.getfield 21, 3) := e_180 (x := 0) (y := 21) drcX7_refuse_0 5 rfl rfl
theorem dX7_refuse_8 : decode cX7_refuse 8 = .ok (.ifCond .ne 8, 3) := e_154 (x := 0) (y := 8) drcX7_refuse_0 8 rfl rfl
theorem dX7_refuse_11 : decode cX7_refuse 11 = .ok (.aload_n 0, 1) := dec_42 (gB drcX7_refuse_0 11 rfl rfl)
theorem dX7_refuse_12 : decode cX7_refuse 12 = .ok (.iload_n 2, 1) := dec_28 (gB drcX7_refuse_0 12 rfl rfl)
theorem dX7_refuse_13 : decode cX7_refuse 13 = .ok (.putfield 21, 3) := e_181 (x := 0) (y := 21) drcX7_refuse_0 13 rfl rfl
theorem dX7_refuse_16 : decode cX7_refuse 16 = .ok (.aload_n 0, 1) := dec_42 (gB drcX7_refuse_0 16 rfl rfl)
theorem dX7_refuse_17 : decode cX7_refuse 17 = .ok (.getfield 21, 3) := e_180 (x := 0) (y := 21) drcX7_refuse_0 17 rfl rfl
theorem dX7_refuse_20 : decode cX7_refuse 20 = .ok (.ifCond .le 7, 3) := e_158 (x := 0) (y := 7) drcX7_refuse_0 20 rfl rfl
theorem dX7_refuse_23 : decode cX7_refuse 23 = .ok (.iconst 1, 1) := dec_4 (gB drcX7_refuse_0 23 rfl rfl)
theorem dX7_refuse_24 : decode cX7_refuse 24 = .ok (.goto 4, 3) := e_167 (x := 0) (y := 4) drcX7_refuse_0 24 rfl rfl
theorem dX7_refuse_27 : decode cX7_refuse 27 = .ok (.iconst 0, 1) := dec_3 (gB drcX7_refuse_0 27 rfl rfl)
theorem dX7_refuse_28 : decode cX7_refuse 28 = .ok (.ireturn, 1) := dec_172 (gB drcX7_refuse_0 28 rfl rfl)
def lkcX7_start_0 : List UInt8 := [0x2a, 0x03, 0xb5, 0x00, 0x15, 0x2a, 0x1b, 0x1c, 0xb6, 0x00, 0x19, 0xac]
def tkcX7_start_0 : List UInt8 := lkcX7_start_0 ++ []
theorem drcX7_start_0 : (cX7_start).data.toList.drop 0 = lkcX7_start_0 ++ [] := by decide +kernel
theorem dX7_start_0 : decode cX7_start 0 = .ok (.aload_n 0, 1) := dec_42 (gB drcX7_start_0 0 rfl rfl)
theorem dX7_start_1 : decode cX7_start 1 = .ok (.iconst 0, 1) := dec_3 (gB drcX7_start_0 1 rfl rfl)
theorem dX7_start_2 : decode cX7_start 2 = .ok (.putfield 21, 3) := e_181 (x := 0) (y := 21) drcX7_start_0 2 rfl rfl
theorem dX7_start_5 : decode cX7_start 5 = .ok (.aload_n 0, 1) := dec_42 (gB drcX7_start_0 5 rfl rfl)
theorem dX7_start_6 : decode cX7_start 6 = .ok (.iload_n 1, 1) := dec_27 (gB drcX7_start_0 6 rfl rfl)
theorem dX7_start_7 : decode cX7_start 7 = .ok (.iload_n 2, 1) := dec_28 (gB drcX7_start_0 7 rfl rfl)
theorem dX7_start_8 : decode cX7_start 8 = .ok (.invokevirtual 25, 3) := e_182 (x := 0) (y := 25) drcX7_start_0 8 rfl rfl
theorem dX7_start_11 : decode cX7_start 11 = .ok (.ireturn, 1) := dec_172 (gB drcX7_start_0 11 rfl rfl)
def lkcX7_isNoSheet_0 : List UInt8 := [0x1a, 0x03, 0x05, 0xb8, 0x00, 0x1d, 0x9a, 0x00, 0x07, 0x04, 0xa7, 0x00, 0x04, 0x03, 0xac]
def tkcX7_isNoSheet_0 : List UInt8 := lkcX7_isNoSheet_0 ++ []
theorem drcX7_isNoSheet_0 : (cX7_isNoSheet).data.toList.drop 0 = lkcX7_isNoSheet_0 ++ [] := by decide +kernel
theorem dX7_isNoSheet_0 : decode cX7_isNoSheet 0 = .ok (.iload_n 0, 1) := dec_26 (gB drcX7_isNoSheet_0 0 rfl rfl)
theorem dX7_isNoSheet_1 : decode cX7_isNoSheet 1 = .ok (.iconst 0, 1) := dec_3 (gB drcX7_isNoSheet_0 1 rfl rfl)
theorem dX7_isNoSheet_2 : decode cX7_isNoSheet 2 = .ok (.iconst 2, 1) := dec_5 (gB drcX7_isNoSheet_0 2 rfl rfl)
theorem dX7_isNoSheet_3 : decode cX7_isNoSheet 3 = .ok (.invokestatic 29, 3) := e_184 (x := 0) (y := 29) drcX7_isNoSheet_0 3 rfl rfl
theorem dX7_isNoSheet_6 : decode cX7_isNoSheet 6 = .ok (.ifCond .ne 7, 3) := e_154 (x := 0) (y := 7) drcX7_isNoSheet_0 6 rfl rfl
theorem dX7_isNoSheet_9 : decode cX7_isNoSheet 9 = .ok (.iconst 1, 1) := dec_4 (gB drcX7_isNoSheet_0 9 rfl rfl)
theorem dX7_isNoSheet_10 : decode cX7_isNoSheet 10 = .ok (.goto 4, 3) := e_167 (x := 0) (y := 4) drcX7_isNoSheet_0 10 rfl rfl
theorem dX7_isNoSheet_13 : decode cX7_isNoSheet 13 = .ok (.iconst 0, 1) := dec_3 (gB drcX7_isNoSheet_0 13 rfl rfl)
theorem dX7_isNoSheet_14 : decode cX7_isNoSheet 14 = .ok (.ireturn, 1) := dec_172 (gB drcX7_isNoSheet_0 14 rfl rfl)
def lkcX7_isNoGrowth_0 : List UInt8 := [0x1a, 0x03, 0x04, 0xb8, 0x00, 0x1d, 0x9a, 0x00, 0x07, 0x04, 0xa7, 0x00, 0x04, 0x03, 0xac]
def tkcX7_isNoGrowth_0 : List UInt8 := lkcX7_isNoGrowth_0 ++ []
theorem drcX7_isNoGrowth_0 : (cX7_isNoGrowth).data.toList.drop 0 = lkcX7_isNoGrowth_0 ++ [] := by decide +kernel
theorem dX7_isNoGrowth_0 : decode cX7_isNoGrowth 0 = .ok (.iload_n 0, 1) := dec_26 (gB drcX7_isNoGrowth_0 0 rfl rfl)
theorem dX7_isNoGrowth_1 : decode cX7_isNoGrowth 1 = .ok (.iconst 0, 1) := dec_3 (gB drcX7_isNoGrowth_0 1 rfl rfl)
theorem dX7_isNoGrowth_2 : decode cX7_isNoGrowth 2 = .ok (.iconst 1, 1) := dec_4 (gB drcX7_isNoGrowth_0 2 rfl rfl)
theorem dX7_isNoGrowth_3 : decode cX7_isNoGrowth 3 = .ok (.invokestatic 29, 3) := e_184 (x := 0) (y := 29) drcX7_isNoGrowth_0 3 rfl rfl
theorem dX7_isNoGrowth_6 : decode cX7_isNoGrowth 6 = .ok (.ifCond .ne 7, 3) := e_154 (x := 0) (y := 7) drcX7_isNoGrowth_0 6 rfl rfl
theorem dX7_isNoGrowth_9 : decode cX7_isNoGrowth 9 = .ok (.iconst 1, 1) := dec_4 (gB drcX7_isNoGrowth_0 9 rfl rfl)
theorem dX7_isNoGrowth_10 : decode cX7_isNoGrowth 10 = .ok (.goto 4, 3) := e_167 (x := 0) (y := 4) drcX7_isNoGrowth_0 10 rfl rfl
theorem dX7_isNoGrowth_13 : decode cX7_isNoGrowth 13 = .ok (.iconst 0, 1) := dec_3 (gB drcX7_isNoGrowth_0 13 rfl rfl)
theorem dX7_isNoGrowth_14 : decode cX7_isNoGrowth 14 = .ok (.ireturn, 1) := dec_172 (gB drcX7_isNoGrowth_0 14 rfl rfl)
def lkcX7_isNoGap_0 : List UInt8 := [0x1b, 0xb8, 0x00, 0x21, 0x9a, 0x00, 0x12, 0x1c, 0x03, 0x2a, 0xb4, 0x00, 0x09, 0x1b, 0x32, 0xbe, 0xb8, 0x00, 0x1d, 0x9a, 0x00, 0x07, 0x04, 0xa7, 0x00, 0x04, 0x03, 0xac]
def tkcX7_isNoGap_0 : List UInt8 := lkcX7_isNoGap_0 ++ []
theorem drcX7_isNoGap_0 : (cX7_isNoGap).data.toList.drop 0 = lkcX7_isNoGap_0 ++ [] := by decide +kernel
theorem dX7_isNoGap_0 : decode cX7_isNoGap 0 = .ok (.iload_n 1, 1) := dec_27 (gB drcX7_isNoGap_0 0 rfl rfl)
theorem dX7_isNoGap_1 : decode cX7_isNoGap 1 = .ok (.invokestatic 33, 3) := e_184 (x := 0) (y := 33) drcX7_isNoGap_0 1 rfl rfl
theorem dX7_isNoGap_4 : decode cX7_isNoGap 4 = .ok (.ifCond .ne 18, 3) := e_154 (x := 0) (y := 18) drcX7_isNoGap_0 4 rfl rfl
theorem dX7_isNoGap_7 : decode cX7_isNoGap 7 = .ok (.iload_n 2, 1) := dec_28 (gB drcX7_isNoGap_0 7 rfl rfl)
theorem dX7_isNoGap_8 : decode cX7_isNoGap 8 = .ok (.iconst 0, 1) := dec_3 (gB drcX7_isNoGap_0 8 rfl rfl)
theorem dX7_isNoGap_9 : decode cX7_isNoGap 9 = .ok (.aload_n 0, 1) := dec_42 (gB drcX7_isNoGap_0 9 rfl rfl)
theorem dX7_isNoGap_10 : decode cX7_isNoGap 10 = .ok (.getfield 9, 3) := e_180 (x := 0) (y := 9) drcX7_isNoGap_0 10 rfl rfl
theorem dX7_isNoGap_13 : decode cX7_isNoGap 13 = .ok (.iload_n 1, 1) := dec_27 (gB drcX7_isNoGap_0 13 rfl rfl)
theorem dX7_isNoGap_14 : decode cX7_isNoGap 14 = .ok (.aaload, 1) := dec_50 (gB drcX7_isNoGap_0 14 rfl rfl)
theorem dX7_isNoGap_15 : decode cX7_isNoGap 15 = .ok (.arraylength, 1) := dec_190 (gB drcX7_isNoGap_0 15 rfl rfl)
theorem dX7_isNoGap_16 : decode cX7_isNoGap 16 = .ok (.invokestatic 29, 3) := e_184 (x := 0) (y := 29) drcX7_isNoGap_0 16 rfl rfl
theorem dX7_isNoGap_19 : decode cX7_isNoGap 19 = .ok (.ifCond .ne 7, 3) := e_154 (x := 0) (y := 7) drcX7_isNoGap_0 19 rfl rfl
theorem dX7_isNoGap_22 : decode cX7_isNoGap 22 = .ok (.iconst 1, 1) := dec_4 (gB drcX7_isNoGap_0 22 rfl rfl)
theorem dX7_isNoGap_23 : decode cX7_isNoGap 23 = .ok (.goto 4, 3) := e_167 (x := 0) (y := 4) drcX7_isNoGap_0 23 rfl rfl
theorem dX7_isNoGap_26 : decode cX7_isNoGap 26 = .ok (.iconst 0, 1) := dec_3 (gB drcX7_isNoGap_0 26 rfl rfl)
theorem dX7_isNoGap_27 : decode cX7_isNoGap 27 = .ok (.ireturn, 1) := dec_172 (gB drcX7_isNoGap_0 27 rfl rfl)
def lkcX7_isNoPlace_0 : List UInt8 := [0x1b, 0xb8, 0x00, 0x21, 0x9a, 0x00, 0x14, 0x1c, 0x03, 0x2a, 0xb4, 0x00, 0x09, 0x1b, 0x32, 0xbe, 0x04, 0x64, 0xb8, 0x00, 0x1d, 0x9a, 0x00, 0x07, 0x04, 0xa7, 0x00, 0x04, 0x03, 0xac]
def tkcX7_isNoPlace_0 : List UInt8 := lkcX7_isNoPlace_0 ++ []
theorem drcX7_isNoPlace_0 : (cX7_isNoPlace).data.toList.drop 0 = lkcX7_isNoPlace_0 ++ [] := by decide +kernel
theorem dX7_isNoPlace_0 : decode cX7_isNoPlace 0 = .ok (.iload_n 1, 1) := dec_27 (gB drcX7_isNoPlace_0 0 rfl rfl)
theorem dX7_isNoPlace_1 : decode cX7_isNoPlace 1 = .ok (.invokestatic 33, 3) := e_184 (x := 0) (y := 33) drcX7_isNoPlace_0 1 rfl rfl
theorem dX7_isNoPlace_4 : decode cX7_isNoPlace 4 = .ok (.ifCond .ne 20, 3) := e_154 (x := 0) (y := 20) drcX7_isNoPlace_0 4 rfl rfl
theorem dX7_isNoPlace_7 : decode cX7_isNoPlace 7 = .ok (.iload_n 2, 1) := dec_28 (gB drcX7_isNoPlace_0 7 rfl rfl)
theorem dX7_isNoPlace_8 : decode cX7_isNoPlace 8 = .ok (.iconst 0, 1) := dec_3 (gB drcX7_isNoPlace_0 8 rfl rfl)
theorem dX7_isNoPlace_9 : decode cX7_isNoPlace 9 = .ok (.aload_n 0, 1) := dec_42 (gB drcX7_isNoPlace_0 9 rfl rfl)
theorem dX7_isNoPlace_10 : decode cX7_isNoPlace 10 = .ok (.getfield 9, 3) := e_180 (x := 0) (y := 9) drcX7_isNoPlace_0 10 rfl rfl
theorem dX7_isNoPlace_13 : decode cX7_isNoPlace 13 = .ok (.iload_n 1, 1) := dec_27 (gB drcX7_isNoPlace_0 13 rfl rfl)
theorem dX7_isNoPlace_14 : decode cX7_isNoPlace 14 = .ok (.aaload, 1) := dec_50 (gB drcX7_isNoPlace_0 14 rfl rfl)
theorem dX7_isNoPlace_15 : decode cX7_isNoPlace 15 = .ok (.arraylength, 1) := dec_190 (gB drcX7_isNoPlace_0 15 rfl rfl)
theorem dX7_isNoPlace_16 : decode cX7_isNoPlace 16 = .ok (.iconst 1, 1) := dec_4 (gB drcX7_isNoPlace_0 16 rfl rfl)
theorem dX7_isNoPlace_17 : decode cX7_isNoPlace 17 = .ok (.isub, 1) := dec_100 (gB drcX7_isNoPlace_0 17 rfl rfl)
theorem dX7_isNoPlace_18 : decode cX7_isNoPlace 18 = .ok (.invokestatic 29, 3) := e_184 (x := 0) (y := 29) drcX7_isNoPlace_0 18 rfl rfl
theorem dX7_isNoPlace_21 : decode cX7_isNoPlace 21 = .ok (.ifCond .ne 7, 3) := e_154 (x := 0) (y := 7) drcX7_isNoPlace_0 21 rfl rfl
theorem dX7_isNoPlace_24 : decode cX7_isNoPlace 24 = .ok (.iconst 1, 1) := dec_4 (gB drcX7_isNoPlace_0 24 rfl rfl)
theorem dX7_isNoPlace_25 : decode cX7_isNoPlace 25 = .ok (.goto 4, 3) := e_167 (x := 0) (y := 4) drcX7_isNoPlace_0 25 rfl rfl
theorem dX7_isNoPlace_28 : decode cX7_isNoPlace 28 = .ok (.iconst 0, 1) := dec_3 (gB drcX7_isNoPlace_0 28 rfl rfl)
theorem dX7_isNoPlace_29 : decode cX7_isNoPlace 29 = .ok (.ireturn, 1) := dec_172 (gB drcX7_isNoPlace_0 29 rfl rfl)
def lkcX7_isNoPart_0 : List UInt8 := [0x1b, 0xb8, 0x00, 0x21, 0x9a, 0x00, 0x17, 0x1c, 0x9b, 0x00, 0x13, 0x1c, 0x1d, 0xa3, 0x00, 0x0e, 0x1d, 0x2a, 0xb4, 0x00, 0x09, 0x1b, 0x32, 0xbe, 0xa4, 0x00, 0x07, 0x04, 0xa7, 0x00, 0x04, 0x03, 0xac]
def tkcX7_isNoPart_0 : List UInt8 := lkcX7_isNoPart_0 ++ []
theorem drcX7_isNoPart_0 : (cX7_isNoPart).data.toList.drop 0 = lkcX7_isNoPart_0 ++ [] := by decide +kernel
theorem dX7_isNoPart_0 : decode cX7_isNoPart 0 = .ok (.iload_n 1, 1) := dec_27 (gB drcX7_isNoPart_0 0 rfl rfl)
theorem dX7_isNoPart_1 : decode cX7_isNoPart 1 = .ok (.invokestatic 33, 3) := e_184 (x := 0) (y := 33) drcX7_isNoPart_0 1 rfl rfl
theorem dX7_isNoPart_4 : decode cX7_isNoPart 4 = .ok (.ifCond .ne 23, 3) := e_154 (x := 0) (y := 23) drcX7_isNoPart_0 4 rfl rfl
theorem dX7_isNoPart_7 : decode cX7_isNoPart 7 = .ok (.iload_n 2, 1) := dec_28 (gB drcX7_isNoPart_0 7 rfl rfl)
theorem dX7_isNoPart_8 : decode cX7_isNoPart 8 = .ok (.ifCond .lt 19, 3) := e_155 (x := 0) (y := 19) drcX7_isNoPart_0 8 rfl rfl
theorem dX7_isNoPart_11 : decode cX7_isNoPart 11 = .ok (.iload_n 2, 1) := dec_28 (gB drcX7_isNoPart_0 11 rfl rfl)
theorem dX7_isNoPart_12 : decode cX7_isNoPart 12 = .ok (.iload_n 3, 1) := dec_29 (gB drcX7_isNoPart_0 12 rfl rfl)
theorem dX7_isNoPart_13 : decode cX7_isNoPart 13 = .ok (.if_icmp .gt 14, 3) := e_163 (x := 0) (y := 14) drcX7_isNoPart_0 13 rfl rfl
theorem dX7_isNoPart_16 : decode cX7_isNoPart 16 = .ok (.iload_n 3, 1) := dec_29 (gB drcX7_isNoPart_0 16 rfl rfl)
theorem dX7_isNoPart_17 : decode cX7_isNoPart 17 = .ok (.aload_n 0, 1) := dec_42 (gB drcX7_isNoPart_0 17 rfl rfl)
theorem dX7_isNoPart_18 : decode cX7_isNoPart 18 = .ok (.getfield 9, 3) := e_180 (x := 0) (y := 9) drcX7_isNoPart_0 18 rfl rfl
theorem dX7_isNoPart_21 : decode cX7_isNoPart 21 = .ok (.iload_n 1, 1) := dec_27 (gB drcX7_isNoPart_0 21 rfl rfl)
theorem dX7_isNoPart_22 : decode cX7_isNoPart 22 = .ok (.aaload, 1) := dec_50 (gB drcX7_isNoPart_0 22 rfl rfl)
theorem dX7_isNoPart_23 : decode cX7_isNoPart 23 = .ok (.arraylength, 1) := dec_190 (gB drcX7_isNoPart_0 23 rfl rfl)
theorem dX7_isNoPart_24 : decode cX7_isNoPart 24 = .ok (.if_icmp .le 7, 3) := e_164 (x := 0) (y := 7) drcX7_isNoPart_0 24 rfl rfl
theorem dX7_isNoPart_27 : decode cX7_isNoPart 27 = .ok (.iconst 1, 1) := dec_4 (gB drcX7_isNoPart_0 27 rfl rfl)
theorem dX7_isNoPart_28 : decode cX7_isNoPart 28 = .ok (.goto 4, 3) := e_167 (x := 0) (y := 4) drcX7_isNoPart_0 28 rfl rfl
theorem dX7_isNoPart_31 : decode cX7_isNoPart 31 = .ok (.iconst 0, 1) := dec_3 (gB drcX7_isNoPart_0 31 rfl rfl)
theorem dX7_isNoPart_32 : decode cX7_isNoPart 32 = .ok (.ireturn, 1) := dec_172 (gB drcX7_isNoPart_0 32 rfl rfl)
def lkcX7_one_0 : List UInt8 := [0x1a, 0x99, 0x00, 0x07, 0x04, 0xa7, 0x00, 0x04, 0x03, 0xac]
def tkcX7_one_0 : List UInt8 := lkcX7_one_0 ++ []
theorem drcX7_one_0 : (cX7_one).data.toList.drop 0 = lkcX7_one_0 ++ [] := by decide +kernel
theorem dX7_one_0 : decode cX7_one 0 = .ok (.iload_n 0, 1) := dec_26 (gB drcX7_one_0 0 rfl rfl)
theorem dX7_one_1 : decode cX7_one 1 = .ok (.ifCond .eq 7, 3) := e_153 (x := 0) (y := 7) drcX7_one_0 1 rfl rfl
theorem dX7_one_4 : decode cX7_one 4 = .ok (.iconst 1, 1) := dec_4 (gB drcX7_one_0 4 rfl rfl)
theorem dX7_one_5 : decode cX7_one 5 = .ok (.goto 4, 3) := e_167 (x := 0) (y := 4) drcX7_one_0 5 rfl rfl
theorem dX7_one_8 : decode cX7_one 8 = .ok (.iconst 0, 1) := dec_3 (gB drcX7_one_0 8 rfl rfl)
theorem dX7_one_9 : decode cX7_one 9 = .ok (.ireturn, 1) := dec_172 (gB drcX7_one_0 9 rfl rfl)
def lkcX7_areSame_0 : List UInt8 := [0x2a, 0xbe, 0x2b, 0xbe, 0xa0, 0x00, 0x10, 0x2a, 0x2b, 0x03, 0xb8, 0x00, 0x25, 0x99, 0x00, 0x07, 0x04, 0xa7, 0x00, 0x04, 0x03, 0xac]
def tkcX7_areSame_0 : List UInt8 := lkcX7_areSame_0 ++ []
theorem drcX7_areSame_0 : (cX7_areSame).data.toList.drop 0 = lkcX7_areSame_0 ++ [] := by decide +kernel
theorem dX7_areSame_0 : decode cX7_areSame 0 = .ok (.aload_n 0, 1) := dec_42 (gB drcX7_areSame_0 0 rfl rfl)
theorem dX7_areSame_1 : decode cX7_areSame 1 = .ok (.arraylength, 1) := dec_190 (gB drcX7_areSame_0 1 rfl rfl)
theorem dX7_areSame_2 : decode cX7_areSame 2 = .ok (.aload_n 1, 1) := dec_43 (gB drcX7_areSame_0 2 rfl rfl)
theorem dX7_areSame_3 : decode cX7_areSame 3 = .ok (.arraylength, 1) := dec_190 (gB drcX7_areSame_0 3 rfl rfl)
theorem dX7_areSame_4 : decode cX7_areSame 4 = .ok (.if_icmp .ne 16, 3) := e_160 (x := 0) (y := 16) drcX7_areSame_0 4 rfl rfl
theorem dX7_areSame_7 : decode cX7_areSame 7 = .ok (.aload_n 0, 1) := dec_42 (gB drcX7_areSame_0 7 rfl rfl)
theorem dX7_areSame_8 : decode cX7_areSame 8 = .ok (.aload_n 1, 1) := dec_43 (gB drcX7_areSame_0 8 rfl rfl)
theorem dX7_areSame_9 : decode cX7_areSame 9 = .ok (.iconst 0, 1) := dec_3 (gB drcX7_areSame_0 9 rfl rfl)
theorem dX7_areSame_10 : decode cX7_areSame 10 = .ok (.invokestatic 37, 3) := e_184 (x := 0) (y := 37) drcX7_areSame_0 10 rfl rfl
theorem dX7_areSame_13 : decode cX7_areSame 13 = .ok (.ifCond .eq 7, 3) := e_153 (x := 0) (y := 7) drcX7_areSame_0 13 rfl rfl
theorem dX7_areSame_16 : decode cX7_areSame 16 = .ok (.iconst 1, 1) := dec_4 (gB drcX7_areSame_0 16 rfl rfl)
theorem dX7_areSame_17 : decode cX7_areSame 17 = .ok (.goto 4, 3) := e_167 (x := 0) (y := 4) drcX7_areSame_0 17 rfl rfl
theorem dX7_areSame_20 : decode cX7_areSame 20 = .ok (.iconst 0, 1) := dec_3 (gB drcX7_areSame_0 20 rfl rfl)
theorem dX7_areSame_21 : decode cX7_areSame 21 = .ok (.ireturn, 1) := dec_172 (gB drcX7_areSame_0 21 rfl rfl)
def lkcX7_standsAt_0 : List UInt8 := [0x1c, 0x2b, 0xbe, 0x60, 0x2a, 0xbe, 0xa4, 0x00, 0x05, 0x03, 0xac, 0x03, 0x3e, 0x1d, 0x2b, 0xbe, 0xa2, 0x00, 0x16, 0x2a, 0x1c, 0x1d, 0x60, 0x2e, 0x2b, 0x1d, 0x2e, 0x9f, 0x00, 0x05, 0x03, 0xac, 0x84, 0x03, 0x01, 0xa7, 0xff, 0xea, 0x04, 0xac]
def tkcX7_standsAt_0 : List UInt8 := lkcX7_standsAt_0 ++ []
theorem drcX7_standsAt_0 : (cX7_standsAt).data.toList.drop 0 = lkcX7_standsAt_0 ++ [] := by decide +kernel
theorem dX7_standsAt_0 : decode cX7_standsAt 0 = .ok (.iload_n 2, 1) := dec_28 (gB drcX7_standsAt_0 0 rfl rfl)
theorem dX7_standsAt_1 : decode cX7_standsAt 1 = .ok (.aload_n 1, 1) := dec_43 (gB drcX7_standsAt_0 1 rfl rfl)
theorem dX7_standsAt_2 : decode cX7_standsAt 2 = .ok (.arraylength, 1) := dec_190 (gB drcX7_standsAt_0 2 rfl rfl)
theorem dX7_standsAt_3 : decode cX7_standsAt 3 = .ok (.iadd, 1) := dec_96 (gB drcX7_standsAt_0 3 rfl rfl)
theorem dX7_standsAt_4 : decode cX7_standsAt 4 = .ok (.aload_n 0, 1) := dec_42 (gB drcX7_standsAt_0 4 rfl rfl)
theorem dX7_standsAt_5 : decode cX7_standsAt 5 = .ok (.arraylength, 1) := dec_190 (gB drcX7_standsAt_0 5 rfl rfl)
theorem dX7_standsAt_6 : decode cX7_standsAt 6 = .ok (.if_icmp .le 5, 3) := e_164 (x := 0) (y := 5) drcX7_standsAt_0 6 rfl rfl
theorem dX7_standsAt_9 : decode cX7_standsAt 9 = .ok (.iconst 0, 1) := dec_3 (gB drcX7_standsAt_0 9 rfl rfl)
theorem dX7_standsAt_10 : decode cX7_standsAt 10 = .ok (.ireturn, 1) := dec_172 (gB drcX7_standsAt_0 10 rfl rfl)
theorem dX7_standsAt_11 : decode cX7_standsAt 11 = .ok (.iconst 0, 1) := dec_3 (gB drcX7_standsAt_0 11 rfl rfl)
theorem dX7_standsAt_12 : decode cX7_standsAt 12 = .ok (.istore_n 3, 1) := dec_62 (gB drcX7_standsAt_0 12 rfl rfl)
theorem dX7_standsAt_13 : decode cX7_standsAt 13 = .ok (.iload_n 3, 1) := dec_29 (gB drcX7_standsAt_0 13 rfl rfl)
theorem dX7_standsAt_14 : decode cX7_standsAt 14 = .ok (.aload_n 1, 1) := dec_43 (gB drcX7_standsAt_0 14 rfl rfl)
theorem dX7_standsAt_15 : decode cX7_standsAt 15 = .ok (.arraylength, 1) := dec_190 (gB drcX7_standsAt_0 15 rfl rfl)
theorem dX7_standsAt_16 : decode cX7_standsAt 16 = .ok (.if_icmp .ge 22, 3) := e_162 (x := 0) (y := 22) drcX7_standsAt_0 16 rfl rfl
theorem dX7_standsAt_19 : decode cX7_standsAt 19 = .ok (.aload_n 0, 1) := dec_42 (gB drcX7_standsAt_0 19 rfl rfl)
theorem dX7_standsAt_20 : decode cX7_standsAt 20 = .ok (.iload_n 2, 1) := dec_28 (gB drcX7_standsAt_0 20 rfl rfl)
theorem dX7_standsAt_21 : decode cX7_standsAt 21 = .ok (.iload_n 3, 1) := dec_29 (gB drcX7_standsAt_0 21 rfl rfl)
theorem dX7_standsAt_22 : decode cX7_standsAt 22 = .ok (.iadd, 1) := dec_96 (gB drcX7_standsAt_0 22 rfl rfl)
theorem dX7_standsAt_23 : decode cX7_standsAt 23 = .ok (.iaload, 1) := dec_46 (gB drcX7_standsAt_0 23 rfl rfl)
theorem dX7_standsAt_24 : decode cX7_standsAt 24 = .ok (.aload_n 1, 1) := dec_43 (gB drcX7_standsAt_0 24 rfl rfl)
theorem dX7_standsAt_25 : decode cX7_standsAt 25 = .ok (.iload_n 3, 1) := dec_29 (gB drcX7_standsAt_0 25 rfl rfl)
theorem dX7_standsAt_26 : decode cX7_standsAt 26 = .ok (.iaload, 1) := dec_46 (gB drcX7_standsAt_0 26 rfl rfl)
theorem dX7_standsAt_27 : decode cX7_standsAt 27 = .ok (.if_icmp .eq 5, 3) := e_159 (x := 0) (y := 5) drcX7_standsAt_0 27 rfl rfl
theorem dX7_standsAt_30 : decode cX7_standsAt 30 = .ok (.iconst 0, 1) := dec_3 (gB drcX7_standsAt_0 30 rfl rfl)
theorem dX7_standsAt_31 : decode cX7_standsAt 31 = .ok (.ireturn, 1) := dec_172 (gB drcX7_standsAt_0 31 rfl rfl)
theorem dX7_standsAt_32 : decode cX7_standsAt 32 = .ok (.iinc 3 1, 3) := e_132 (x := 3) (y := 1) drcX7_standsAt_0 32 rfl rfl
theorem dX7_standsAt_35 : decode cX7_standsAt 35 = .ok (.goto (-22), 3) := e_167 (x := 255) (y := 234) drcX7_standsAt_0 35 rfl rfl
theorem dX7_standsAt_38 : decode cX7_standsAt 38 = .ok (.iconst 1, 1) := dec_4 (gB drcX7_standsAt_0 38 rfl rfl)
theorem dX7_standsAt_39 : decode cX7_standsAt 39 = .ok (.ireturn, 1) := dec_172 (gB drcX7_standsAt_0 39 rfl rfl)
def lkcX7_bs_0 : List UInt8 := [0x03, 0x3c, 0x2a, 0x4d, 0x2c, 0xbe, 0x3e, 0x03, 0x36, 0x04, 0x15, 0x04, 0x1d, 0xa2, 0x00, 0x14, 0x2c, 0x15, 0x04, 0x2e, 0x36, 0x05, 0x1b, 0x15, 0x05, 0x60, 0x3c, 0x84, 0x04, 0x01, 0xa7, 0xff, 0xec, 0x1b, 0xac]
def tkcX7_bs_0 : List UInt8 := lkcX7_bs_0 ++ []
theorem drcX7_bs_0 : (cX7_bs).data.toList.drop 0 = lkcX7_bs_0 ++ [] := by decide +kernel
theorem dX7_bs_0 : decode cX7_bs 0 = .ok (.iconst 0, 1) := dec_3 (gB drcX7_bs_0 0 rfl rfl)
theorem dX7_bs_1 : decode cX7_bs 1 = .ok (.istore_n 1, 1) := dec_60 (gB drcX7_bs_0 1 rfl rfl)
theorem dX7_bs_2 : decode cX7_bs 2 = .ok (.aload_n 0, 1) := dec_42 (gB drcX7_bs_0 2 rfl rfl)
theorem dX7_bs_3 : decode cX7_bs 3 = .ok (.astore_n 2, 1) := dec_77 (gB drcX7_bs_0 3 rfl rfl)
theorem dX7_bs_4 : decode cX7_bs 4 = .ok (.aload_n 2, 1) := dec_44 (gB drcX7_bs_0 4 rfl rfl)
theorem dX7_bs_5 : decode cX7_bs 5 = .ok (.arraylength, 1) := dec_190 (gB drcX7_bs_0 5 rfl rfl)
theorem dX7_bs_6 : decode cX7_bs 6 = .ok (.istore_n 3, 1) := dec_62 (gB drcX7_bs_0 6 rfl rfl)
theorem dX7_bs_7 : decode cX7_bs 7 = .ok (.iconst 0, 1) := dec_3 (gB drcX7_bs_0 7 rfl rfl)
theorem dX7_bs_8 : decode cX7_bs 8 = .ok (.istore 4, 2) := e_54 (x := 4) drcX7_bs_0 8 rfl rfl
theorem dX7_bs_10 : decode cX7_bs 10 = .ok (.iload 4, 2) := e_21 (x := 4) drcX7_bs_0 10 rfl rfl
theorem dX7_bs_12 : decode cX7_bs 12 = .ok (.iload_n 3, 1) := dec_29 (gB drcX7_bs_0 12 rfl rfl)
theorem dX7_bs_13 : decode cX7_bs 13 = .ok (.if_icmp .ge 20, 3) := e_162 (x := 0) (y := 20) drcX7_bs_0 13 rfl rfl
theorem dX7_bs_16 : decode cX7_bs 16 = .ok (.aload_n 2, 1) := dec_44 (gB drcX7_bs_0 16 rfl rfl)
theorem dX7_bs_17 : decode cX7_bs 17 = .ok (.iload 4, 2) := e_21 (x := 4) drcX7_bs_0 17 rfl rfl
theorem dX7_bs_19 : decode cX7_bs 19 = .ok (.iaload, 1) := dec_46 (gB drcX7_bs_0 19 rfl rfl)
theorem dX7_bs_20 : decode cX7_bs 20 = .ok (.istore 5, 2) := e_54 (x := 5) drcX7_bs_0 20 rfl rfl
theorem dX7_bs_22 : decode cX7_bs 22 = .ok (.iload_n 1, 1) := dec_27 (gB drcX7_bs_0 22 rfl rfl)
theorem dX7_bs_23 : decode cX7_bs 23 = .ok (.iload 5, 2) := e_21 (x := 5) drcX7_bs_0 23 rfl rfl
theorem dX7_bs_25 : decode cX7_bs 25 = .ok (.iadd, 1) := dec_96 (gB drcX7_bs_0 25 rfl rfl)
theorem dX7_bs_26 : decode cX7_bs 26 = .ok (.istore_n 1, 1) := dec_60 (gB drcX7_bs_0 26 rfl rfl)
theorem dX7_bs_27 : decode cX7_bs 27 = .ok (.iinc 4 1, 3) := e_132 (x := 4) (y := 1) drcX7_bs_0 27 rfl rfl
theorem dX7_bs_30 : decode cX7_bs 30 = .ok (.goto (-20), 3) := e_167 (x := 255) (y := 236) drcX7_bs_0 30 rfl rfl
theorem dX7_bs_33 : decode cX7_bs 33 = .ok (.iload_n 1, 1) := dec_27 (gB drcX7_bs_0 33 rfl rfl)
theorem dX7_bs_34 : decode cX7_bs 34 = .ok (.ireturn, 1) := dec_172 (gB drcX7_bs_0 34 rfl rfl)
def lkcX7_spliced_0 : List UInt8 := [0x2a, 0xbe, 0x1c, 0x1b, 0x64, 0x64, 0x2d, 0xbe, 0x60, 0xbc, 0x0a, 0x3a, 0x04, 0x03, 0x36, 0x05, 0x15, 0x05, 0x19, 0x04, 0xbe, 0xa2, 0x00, 0x38, 0x19, 0x04, 0x15, 0x05, 0x15, 0x05, 0x1b, 0xa2, 0x00, 0x0a, 0x2a, 0x15, 0x05, 0x2e, 0xa7, 0x00, 0x20, 0x15, 0x05, 0x1b, 0x2d, 0xbe, 0x60, 0xa2, 0x00, 0x0c, 0x2d, 0x15, 0x05, 0x1b, 0x64, 0x2e, 0xa7, 0x00, 0x0e, 0x2a, 0x15, 0x05, 0x2d, 0xbe]
def lkcX7_spliced_1 : List UInt8 := [0x64, 0x1c, 0x60, 0x1b, 0x64, 0x2e, 0x4f, 0x84, 0x05, 0x01, 0xa7, 0xff, 0xc6, 0x19, 0x04, 0xb0]
def tkcX7_spliced_1 : List UInt8 := lkcX7_spliced_1 ++ []
def tkcX7_spliced_0 : List UInt8 := lkcX7_spliced_0 ++ tkcX7_spliced_1
theorem drcX7_spliced_0 : (cX7_spliced).data.toList.drop 0 = lkcX7_spliced_0 ++ tkcX7_spliced_1 := by decide +kernel
theorem drcX7_spliced_1 : (cX7_spliced).data.toList.drop 64 = lkcX7_spliced_1 ++ [] := dr_step drcX7_spliced_0 rfl
theorem dX7_spliced_0 : decode cX7_spliced 0 = .ok (.aload_n 0, 1) := dec_42 (gB drcX7_spliced_0 0 rfl rfl)
theorem dX7_spliced_1 : decode cX7_spliced 1 = .ok (.arraylength, 1) := dec_190 (gB drcX7_spliced_0 1 rfl rfl)
theorem dX7_spliced_2 : decode cX7_spliced 2 = .ok (.iload_n 2, 1) := dec_28 (gB drcX7_spliced_0 2 rfl rfl)
theorem dX7_spliced_3 : decode cX7_spliced 3 = .ok (.iload_n 1, 1) := dec_27 (gB drcX7_spliced_0 3 rfl rfl)
theorem dX7_spliced_4 : decode cX7_spliced 4 = .ok (.isub, 1) := dec_100 (gB drcX7_spliced_0 4 rfl rfl)
theorem dX7_spliced_5 : decode cX7_spliced 5 = .ok (.isub, 1) := dec_100 (gB drcX7_spliced_0 5 rfl rfl)
theorem dX7_spliced_6 : decode cX7_spliced 6 = .ok (.aload_n 3, 1) := dec_45 (gB drcX7_spliced_0 6 rfl rfl)
theorem dX7_spliced_7 : decode cX7_spliced 7 = .ok (.arraylength, 1) := dec_190 (gB drcX7_spliced_0 7 rfl rfl)
theorem dX7_spliced_8 : decode cX7_spliced 8 = .ok (.iadd, 1) := dec_96 (gB drcX7_spliced_0 8 rfl rfl)
theorem dX7_spliced_9 : decode cX7_spliced 9 = .ok (.newarray .int, 2) := by decide +kernel
theorem dX7_spliced_11 : decode cX7_spliced 11 = .ok (.astore 4, 2) := e_58 (x := 4) drcX7_spliced_0 11 rfl rfl
theorem dX7_spliced_13 : decode cX7_spliced 13 = .ok (.iconst 0, 1) := dec_3 (gB drcX7_spliced_0 13 rfl rfl)
theorem dX7_spliced_14 : decode cX7_spliced 14 = .ok (.istore 5, 2) := e_54 (x := 5) drcX7_spliced_0 14 rfl rfl
theorem dX7_spliced_16 : decode cX7_spliced 16 = .ok (.iload 5, 2) := e_21 (x := 5) drcX7_spliced_0 16 rfl rfl
theorem dX7_spliced_18 : decode cX7_spliced 18 = .ok (.aload 4, 2) := e_25 (x := 4) drcX7_spliced_0 18 rfl rfl
theorem dX7_spliced_20 : decode cX7_spliced 20 = .ok (.arraylength, 1) := dec_190 (gB drcX7_spliced_0 20 rfl rfl)
theorem dX7_spliced_21 : decode cX7_spliced 21 = .ok (.if_icmp .ge 56, 3) := e_162 (x := 0) (y := 56) drcX7_spliced_0 21 rfl rfl
theorem dX7_spliced_24 : decode cX7_spliced 24 = .ok (.aload 4, 2) := e_25 (x := 4) drcX7_spliced_0 24 rfl rfl
theorem dX7_spliced_26 : decode cX7_spliced 26 = .ok (.iload 5, 2) := e_21 (x := 5) drcX7_spliced_0 26 rfl rfl
theorem dX7_spliced_28 : decode cX7_spliced 28 = .ok (.iload 5, 2) := e_21 (x := 5) drcX7_spliced_0 28 rfl rfl
theorem dX7_spliced_30 : decode cX7_spliced 30 = .ok (.iload_n 1, 1) := dec_27 (gB drcX7_spliced_0 30 rfl rfl)
theorem dX7_spliced_31 : decode cX7_spliced 31 = .ok (.if_icmp .ge 10, 3) := e_162 (x := 0) (y := 10) drcX7_spliced_0 31 rfl rfl
theorem dX7_spliced_34 : decode cX7_spliced 34 = .ok (.aload_n 0, 1) := dec_42 (gB drcX7_spliced_0 34 rfl rfl)
theorem dX7_spliced_35 : decode cX7_spliced 35 = .ok (.iload 5, 2) := e_21 (x := 5) drcX7_spliced_0 35 rfl rfl
theorem dX7_spliced_37 : decode cX7_spliced 37 = .ok (.iaload, 1) := dec_46 (gB drcX7_spliced_0 37 rfl rfl)
theorem dX7_spliced_38 : decode cX7_spliced 38 = .ok (.goto 32, 3) := e_167 (x := 0) (y := 32) drcX7_spliced_0 38 rfl rfl
theorem dX7_spliced_41 : decode cX7_spliced 41 = .ok (.iload 5, 2) := e_21 (x := 5) drcX7_spliced_0 41 rfl rfl
theorem dX7_spliced_43 : decode cX7_spliced 43 = .ok (.iload_n 1, 1) := dec_27 (gB drcX7_spliced_0 43 rfl rfl)
theorem dX7_spliced_44 : decode cX7_spliced 44 = .ok (.aload_n 3, 1) := dec_45 (gB drcX7_spliced_0 44 rfl rfl)
theorem dX7_spliced_45 : decode cX7_spliced 45 = .ok (.arraylength, 1) := dec_190 (gB drcX7_spliced_0 45 rfl rfl)
theorem dX7_spliced_46 : decode cX7_spliced 46 = .ok (.iadd, 1) := dec_96 (gB drcX7_spliced_0 46 rfl rfl)
theorem dX7_spliced_47 : decode cX7_spliced 47 = .ok (.if_icmp .ge 12, 3) := e_162 (x := 0) (y := 12) drcX7_spliced_0 47 rfl rfl
theorem dX7_spliced_50 : decode cX7_spliced 50 = .ok (.aload_n 3, 1) := dec_45 (gB drcX7_spliced_0 50 rfl rfl)
theorem dX7_spliced_51 : decode cX7_spliced 51 = .ok (.iload 5, 2) := e_21 (x := 5) drcX7_spliced_0 51 rfl rfl
theorem dX7_spliced_53 : decode cX7_spliced 53 = .ok (.iload_n 1, 1) := dec_27 (gB drcX7_spliced_0 53 rfl rfl)
theorem dX7_spliced_54 : decode cX7_spliced 54 = .ok (.isub, 1) := dec_100 (gB drcX7_spliced_0 54 rfl rfl)
theorem dX7_spliced_55 : decode cX7_spliced 55 = .ok (.iaload, 1) := dec_46 (gB drcX7_spliced_0 55 rfl rfl)
theorem dX7_spliced_56 : decode cX7_spliced 56 = .ok (.goto 14, 3) := e_167 (x := 0) (y := 14) drcX7_spliced_0 56 rfl rfl
theorem dX7_spliced_59 : decode cX7_spliced 59 = .ok (.aload_n 0, 1) := dec_42 (gB drcX7_spliced_0 59 rfl rfl)
theorem dX7_spliced_60 : decode cX7_spliced 60 = .ok (.iload 5, 2) := e_21 (x := 5) drcX7_spliced_0 60 rfl rfl
theorem dX7_spliced_62 : decode cX7_spliced 62 = .ok (.aload_n 3, 1) := dec_45 (gB drcX7_spliced_0 62 rfl rfl)
theorem dX7_spliced_63 : decode cX7_spliced 63 = .ok (.arraylength, 1) := dec_190 (gB drcX7_spliced_0 63 rfl rfl)
theorem dX7_spliced_64 : decode cX7_spliced 64 = .ok (.isub, 1) := dec_100 (gB drcX7_spliced_1 0 rfl rfl)
theorem dX7_spliced_65 : decode cX7_spliced 65 = .ok (.iload_n 2, 1) := dec_28 (gB drcX7_spliced_1 1 rfl rfl)
theorem dX7_spliced_66 : decode cX7_spliced 66 = .ok (.iadd, 1) := dec_96 (gB drcX7_spliced_1 2 rfl rfl)
theorem dX7_spliced_67 : decode cX7_spliced 67 = .ok (.iload_n 1, 1) := dec_27 (gB drcX7_spliced_1 3 rfl rfl)
theorem dX7_spliced_68 : decode cX7_spliced 68 = .ok (.isub, 1) := dec_100 (gB drcX7_spliced_1 4 rfl rfl)
theorem dX7_spliced_69 : decode cX7_spliced 69 = .ok (.iaload, 1) := dec_46 (gB drcX7_spliced_1 5 rfl rfl)
theorem dX7_spliced_70 : decode cX7_spliced 70 = .ok (.iastore, 1) := dec_79 (gB drcX7_spliced_1 6 rfl rfl)
theorem dX7_spliced_71 : decode cX7_spliced 71 = .ok (.iinc 5 1, 3) := e_132 (x := 5) (y := 1) drcX7_spliced_1 7 rfl rfl
theorem dX7_spliced_74 : decode cX7_spliced 74 = .ok (.goto (-58), 3) := e_167 (x := 255) (y := 198) drcX7_spliced_1 10 rfl rfl
theorem dX7_spliced_77 : decode cX7_spliced 77 = .ok (.aload 4, 2) := e_25 (x := 4) drcX7_spliced_1 13 rfl rfl
theorem dX7_spliced_79 : decode cX7_spliced 79 = .ok (.areturn, 1) := dec_176 (gB drcX7_spliced_1 15 rfl rfl)
def lkcX7_ofCode_0 : List UInt8 := [0x03, 0x3c, 0x1a, 0x1b, 0x7a, 0x04, 0xa4, 0x00, 0x09, 0x84, 0x01, 0x01, 0xa7, 0xff, 0xf6, 0x1b, 0xbc, 0x0a, 0x4d, 0x03, 0x3e, 0x1d, 0x1b, 0xa2, 0x00, 0x15, 0x2c, 0x1d, 0x1a, 0x1b, 0x04, 0x64, 0x1d, 0x64, 0x7a, 0x04, 0x7e, 0x4f, 0x84, 0x03, 0x01, 0xa7, 0xff, 0xec, 0x2c, 0xb0]
def tkcX7_ofCode_0 : List UInt8 := lkcX7_ofCode_0 ++ []
theorem drcX7_ofCode_0 : (cX7_ofCode).data.toList.drop 0 = lkcX7_ofCode_0 ++ [] := by decide +kernel
theorem dX7_ofCode_0 : decode cX7_ofCode 0 = .ok (.iconst 0, 1) := dec_3 (gB drcX7_ofCode_0 0 rfl rfl)
theorem dX7_ofCode_1 : decode cX7_ofCode 1 = .ok (.istore_n 1, 1) := dec_60 (gB drcX7_ofCode_0 1 rfl rfl)
theorem dX7_ofCode_2 : decode cX7_ofCode 2 = .ok (.iload_n 0, 1) := dec_26 (gB drcX7_ofCode_0 2 rfl rfl)
theorem dX7_ofCode_3 : decode cX7_ofCode 3 = .ok (.iload_n 1, 1) := dec_27 (gB drcX7_ofCode_0 3 rfl rfl)
theorem dX7_ofCode_4 : decode cX7_ofCode 4 = .ok (.ishr, 1) := dec_122 (gB drcX7_ofCode_0 4 rfl rfl)
theorem dX7_ofCode_5 : decode cX7_ofCode 5 = .ok (.iconst 1, 1) := dec_4 (gB drcX7_ofCode_0 5 rfl rfl)
theorem dX7_ofCode_6 : decode cX7_ofCode 6 = .ok (.if_icmp .le 9, 3) := e_164 (x := 0) (y := 9) drcX7_ofCode_0 6 rfl rfl
theorem dX7_ofCode_9 : decode cX7_ofCode 9 = .ok (.iinc 1 1, 3) := e_132 (x := 1) (y := 1) drcX7_ofCode_0 9 rfl rfl
theorem dX7_ofCode_12 : decode cX7_ofCode 12 = .ok (.goto (-10), 3) := e_167 (x := 255) (y := 246) drcX7_ofCode_0 12 rfl rfl
theorem dX7_ofCode_15 : decode cX7_ofCode 15 = .ok (.iload_n 1, 1) := dec_27 (gB drcX7_ofCode_0 15 rfl rfl)
theorem dX7_ofCode_16 : decode cX7_ofCode 16 = .ok (.newarray .int, 2) := by decide +kernel
theorem dX7_ofCode_18 : decode cX7_ofCode 18 = .ok (.astore_n 2, 1) := dec_77 (gB drcX7_ofCode_0 18 rfl rfl)
theorem dX7_ofCode_19 : decode cX7_ofCode 19 = .ok (.iconst 0, 1) := dec_3 (gB drcX7_ofCode_0 19 rfl rfl)
theorem dX7_ofCode_20 : decode cX7_ofCode 20 = .ok (.istore_n 3, 1) := dec_62 (gB drcX7_ofCode_0 20 rfl rfl)
theorem dX7_ofCode_21 : decode cX7_ofCode 21 = .ok (.iload_n 3, 1) := dec_29 (gB drcX7_ofCode_0 21 rfl rfl)
theorem dX7_ofCode_22 : decode cX7_ofCode 22 = .ok (.iload_n 1, 1) := dec_27 (gB drcX7_ofCode_0 22 rfl rfl)
theorem dX7_ofCode_23 : decode cX7_ofCode 23 = .ok (.if_icmp .ge 21, 3) := e_162 (x := 0) (y := 21) drcX7_ofCode_0 23 rfl rfl
theorem dX7_ofCode_26 : decode cX7_ofCode 26 = .ok (.aload_n 2, 1) := dec_44 (gB drcX7_ofCode_0 26 rfl rfl)
theorem dX7_ofCode_27 : decode cX7_ofCode 27 = .ok (.iload_n 3, 1) := dec_29 (gB drcX7_ofCode_0 27 rfl rfl)
theorem dX7_ofCode_28 : decode cX7_ofCode 28 = .ok (.iload_n 0, 1) := dec_26 (gB drcX7_ofCode_0 28 rfl rfl)
theorem dX7_ofCode_29 : decode cX7_ofCode 29 = .ok (.iload_n 1, 1) := dec_27 (gB drcX7_ofCode_0 29 rfl rfl)
theorem dX7_ofCode_30 : decode cX7_ofCode 30 = .ok (.iconst 1, 1) := dec_4 (gB drcX7_ofCode_0 30 rfl rfl)
theorem dX7_ofCode_31 : decode cX7_ofCode 31 = .ok (.isub, 1) := dec_100 (gB drcX7_ofCode_0 31 rfl rfl)
theorem dX7_ofCode_32 : decode cX7_ofCode 32 = .ok (.iload_n 3, 1) := dec_29 (gB drcX7_ofCode_0 32 rfl rfl)
theorem dX7_ofCode_33 : decode cX7_ofCode 33 = .ok (.isub, 1) := dec_100 (gB drcX7_ofCode_0 33 rfl rfl)
theorem dX7_ofCode_34 : decode cX7_ofCode 34 = .ok (.ishr, 1) := dec_122 (gB drcX7_ofCode_0 34 rfl rfl)
theorem dX7_ofCode_35 : decode cX7_ofCode 35 = .ok (.iconst 1, 1) := dec_4 (gB drcX7_ofCode_0 35 rfl rfl)
theorem dX7_ofCode_36 : decode cX7_ofCode 36 = .ok (.iand, 1) := dec_126 (gB drcX7_ofCode_0 36 rfl rfl)
theorem dX7_ofCode_37 : decode cX7_ofCode 37 = .ok (.iastore, 1) := dec_79 (gB drcX7_ofCode_0 37 rfl rfl)
theorem dX7_ofCode_38 : decode cX7_ofCode 38 = .ok (.iinc 3 1, 3) := e_132 (x := 3) (y := 1) drcX7_ofCode_0 38 rfl rfl
theorem dX7_ofCode_41 : decode cX7_ofCode 41 = .ok (.goto (-20), 3) := e_167 (x := 255) (y := 236) drcX7_ofCode_0 41 rfl rfl
theorem dX7_ofCode_44 : decode cX7_ofCode 44 = .ok (.aload_n 2, 1) := dec_44 (gB drcX7_ofCode_0 44 rfl rfl)
theorem dX7_ofCode_45 : decode cX7_ofCode 45 = .ok (.areturn, 1) := dec_176 (gB drcX7_ofCode_0 45 rfl rfl)
def lkcX7_turned_0 : List UInt8 := [0x2a, 0xbe, 0xbc, 0x0a, 0x4c, 0x03, 0x3d, 0x1c, 0x2a, 0xbe, 0xa2, 0x00, 0x14, 0x2b, 0x1c, 0x2a, 0x2a, 0xbe, 0x04, 0x64, 0x1c, 0x64, 0x2e, 0x4f, 0x84, 0x02, 0x01, 0xa7, 0xff, 0xec, 0x2b, 0xb0]
def tkcX7_turned_0 : List UInt8 := lkcX7_turned_0 ++ []
theorem drcX7_turned_0 : (cX7_turned).data.toList.drop 0 = lkcX7_turned_0 ++ [] := by decide +kernel
theorem dX7_turned_0 : decode cX7_turned 0 = .ok (.aload_n 0, 1) := dec_42 (gB drcX7_turned_0 0 rfl rfl)
theorem dX7_turned_1 : decode cX7_turned 1 = .ok (.arraylength, 1) := dec_190 (gB drcX7_turned_0 1 rfl rfl)
theorem dX7_turned_2 : decode cX7_turned 2 = .ok (.newarray .int, 2) := by decide +kernel
theorem dX7_turned_4 : decode cX7_turned 4 = .ok (.astore_n 1, 1) := dec_76 (gB drcX7_turned_0 4 rfl rfl)
theorem dX7_turned_5 : decode cX7_turned 5 = .ok (.iconst 0, 1) := dec_3 (gB drcX7_turned_0 5 rfl rfl)
theorem dX7_turned_6 : decode cX7_turned 6 = .ok (.istore_n 2, 1) := dec_61 (gB drcX7_turned_0 6 rfl rfl)
theorem dX7_turned_7 : decode cX7_turned 7 = .ok (.iload_n 2, 1) := dec_28 (gB drcX7_turned_0 7 rfl rfl)
theorem dX7_turned_8 : decode cX7_turned 8 = .ok (.aload_n 0, 1) := dec_42 (gB drcX7_turned_0 8 rfl rfl)
theorem dX7_turned_9 : decode cX7_turned 9 = .ok (.arraylength, 1) := dec_190 (gB drcX7_turned_0 9 rfl rfl)
theorem dX7_turned_10 : decode cX7_turned 10 = .ok (.if_icmp .ge 20, 3) := e_162 (x := 0) (y := 20) drcX7_turned_0 10 rfl rfl
theorem dX7_turned_13 : decode cX7_turned 13 = .ok (.aload_n 1, 1) := dec_43 (gB drcX7_turned_0 13 rfl rfl)
theorem dX7_turned_14 : decode cX7_turned 14 = .ok (.iload_n 2, 1) := dec_28 (gB drcX7_turned_0 14 rfl rfl)
theorem dX7_turned_15 : decode cX7_turned 15 = .ok (.aload_n 0, 1) := dec_42 (gB drcX7_turned_0 15 rfl rfl)
theorem dX7_turned_16 : decode cX7_turned 16 = .ok (.aload_n 0, 1) := dec_42 (gB drcX7_turned_0 16 rfl rfl)
theorem dX7_turned_17 : decode cX7_turned 17 = .ok (.arraylength, 1) := dec_190 (gB drcX7_turned_0 17 rfl rfl)
theorem dX7_turned_18 : decode cX7_turned 18 = .ok (.iconst 1, 1) := dec_4 (gB drcX7_turned_0 18 rfl rfl)
theorem dX7_turned_19 : decode cX7_turned 19 = .ok (.isub, 1) := dec_100 (gB drcX7_turned_0 19 rfl rfl)
theorem dX7_turned_20 : decode cX7_turned 20 = .ok (.iload_n 2, 1) := dec_28 (gB drcX7_turned_0 20 rfl rfl)
theorem dX7_turned_21 : decode cX7_turned 21 = .ok (.isub, 1) := dec_100 (gB drcX7_turned_0 21 rfl rfl)
theorem dX7_turned_22 : decode cX7_turned 22 = .ok (.iaload, 1) := dec_46 (gB drcX7_turned_0 22 rfl rfl)
theorem dX7_turned_23 : decode cX7_turned 23 = .ok (.iastore, 1) := dec_79 (gB drcX7_turned_0 23 rfl rfl)
theorem dX7_turned_24 : decode cX7_turned 24 = .ok (.iinc 2 1, 3) := e_132 (x := 2) (y := 1) drcX7_turned_0 24 rfl rfl
theorem dX7_turned_27 : decode cX7_turned 27 = .ok (.goto (-20), 3) := e_167 (x := 255) (y := 236) drcX7_turned_0 27 rfl rfl
theorem dX7_turned_30 : decode cX7_turned 30 = .ok (.aload_n 1, 1) := dec_43 (gB drcX7_turned_0 30 rfl rfl)
theorem dX7_turned_31 : decode cX7_turned 31 = .ok (.areturn, 1) := dec_176 (gB drcX7_turned_0 31 rfl rfl)
def lkcX7_image_0 : List UInt8 := [0x2a, 0xbe, 0x2a, 0xb8, 0x00, 0x29, 0x64, 0x2b, 0xbe, 0x68, 0x2a, 0xb8, 0x00, 0x29, 0x2c, 0xbe, 0x68, 0x60, 0x3e, 0x1d, 0xbc, 0x0a, 0x3a, 0x04, 0x03, 0x36, 0x05, 0x2a, 0x3a, 0x06, 0x19, 0x06, 0xbe, 0x36, 0x07, 0x03, 0x36, 0x08, 0x15, 0x08, 0x15, 0x07, 0xa2, 0x00, 0x42, 0x19, 0x06, 0x15, 0x08, 0x2e, 0x36, 0x09, 0x15, 0x09, 0x9a, 0x00, 0x07, 0x2b, 0xa7, 0x00, 0x04, 0x2c, 0x3a, 0x0a]
def lkcX7_image_1 : List UInt8 := [0x19, 0x0a, 0xbe, 0x36, 0x0b, 0x03, 0x36, 0x0c, 0x15, 0x0c, 0x15, 0x0b, 0xa2, 0x00, 0x1a, 0x19, 0x0a, 0x15, 0x0c, 0x2e, 0x36, 0x0d, 0x19, 0x04, 0x15, 0x05, 0x84, 0x05, 0x01, 0x15, 0x0d, 0x4f, 0x84, 0x0c, 0x01, 0xa7, 0xff, 0xe5, 0x84, 0x08, 0x01, 0xa7, 0xff, 0xbd, 0x19, 0x04, 0xb0]
def tkcX7_image_1 : List UInt8 := lkcX7_image_1 ++ []
def tkcX7_image_0 : List UInt8 := lkcX7_image_0 ++ tkcX7_image_1
theorem drcX7_image_0 : (cX7_image).data.toList.drop 0 = lkcX7_image_0 ++ tkcX7_image_1 := by decide +kernel
theorem drcX7_image_1 : (cX7_image).data.toList.drop 64 = lkcX7_image_1 ++ [] := dr_step drcX7_image_0 rfl
theorem dX7_image_0 : decode cX7_image 0 = .ok (.aload_n 0, 1) := dec_42 (gB drcX7_image_0 0 rfl rfl)
theorem dX7_image_1 : decode cX7_image 1 = .ok (.arraylength, 1) := dec_190 (gB drcX7_image_0 1 rfl rfl)
theorem dX7_image_2 : decode cX7_image 2 = .ok (.aload_n 0, 1) := dec_42 (gB drcX7_image_0 2 rfl rfl)
theorem dX7_image_3 : decode cX7_image 3 = .ok (.invokestatic 41, 3) := e_184 (x := 0) (y := 41) drcX7_image_0 3 rfl rfl
theorem dX7_image_6 : decode cX7_image 6 = .ok (.isub, 1) := dec_100 (gB drcX7_image_0 6 rfl rfl)
theorem dX7_image_7 : decode cX7_image 7 = .ok (.aload_n 1, 1) := dec_43 (gB drcX7_image_0 7 rfl rfl)
theorem dX7_image_8 : decode cX7_image 8 = .ok (.arraylength, 1) := dec_190 (gB drcX7_image_0 8 rfl rfl)
theorem dX7_image_9 : decode cX7_image 9 = .ok (.imul, 1) := dec_104 (gB drcX7_image_0 9 rfl rfl)
theorem dX7_image_10 : decode cX7_image 10 = .ok (.aload_n 0, 1) := dec_42 (gB drcX7_image_0 10 rfl rfl)
theorem dX7_image_11 : decode cX7_image 11 = .ok (.invokestatic 41, 3) := e_184 (x := 0) (y := 41) drcX7_image_0 11 rfl rfl
theorem dX7_image_14 : decode cX7_image 14 = .ok (.aload_n 2, 1) := dec_44 (gB drcX7_image_0 14 rfl rfl)
theorem dX7_image_15 : decode cX7_image 15 = .ok (.arraylength, 1) := dec_190 (gB drcX7_image_0 15 rfl rfl)
theorem dX7_image_16 : decode cX7_image 16 = .ok (.imul, 1) := dec_104 (gB drcX7_image_0 16 rfl rfl)
theorem dX7_image_17 : decode cX7_image 17 = .ok (.iadd, 1) := dec_96 (gB drcX7_image_0 17 rfl rfl)
theorem dX7_image_18 : decode cX7_image 18 = .ok (.istore_n 3, 1) := dec_62 (gB drcX7_image_0 18 rfl rfl)
theorem dX7_image_19 : decode cX7_image 19 = .ok (.iload_n 3, 1) := dec_29 (gB drcX7_image_0 19 rfl rfl)
theorem dX7_image_20 : decode cX7_image 20 = .ok (.newarray .int, 2) := by decide +kernel
theorem dX7_image_22 : decode cX7_image 22 = .ok (.astore 4, 2) := e_58 (x := 4) drcX7_image_0 22 rfl rfl
theorem dX7_image_24 : decode cX7_image 24 = .ok (.iconst 0, 1) := dec_3 (gB drcX7_image_0 24 rfl rfl)
theorem dX7_image_25 : decode cX7_image 25 = .ok (.istore 5, 2) := e_54 (x := 5) drcX7_image_0 25 rfl rfl
theorem dX7_image_27 : decode cX7_image 27 = .ok (.aload_n 0, 1) := dec_42 (gB drcX7_image_0 27 rfl rfl)
theorem dX7_image_28 : decode cX7_image 28 = .ok (.astore 6, 2) := e_58 (x := 6) drcX7_image_0 28 rfl rfl
theorem dX7_image_30 : decode cX7_image 30 = .ok (.aload 6, 2) := e_25 (x := 6) drcX7_image_0 30 rfl rfl
theorem dX7_image_32 : decode cX7_image 32 = .ok (.arraylength, 1) := dec_190 (gB drcX7_image_0 32 rfl rfl)
theorem dX7_image_33 : decode cX7_image 33 = .ok (.istore 7, 2) := e_54 (x := 7) drcX7_image_0 33 rfl rfl
theorem dX7_image_35 : decode cX7_image 35 = .ok (.iconst 0, 1) := dec_3 (gB drcX7_image_0 35 rfl rfl)
theorem dX7_image_36 : decode cX7_image 36 = .ok (.istore 8, 2) := e_54 (x := 8) drcX7_image_0 36 rfl rfl
theorem dX7_image_38 : decode cX7_image 38 = .ok (.iload 8, 2) := e_21 (x := 8) drcX7_image_0 38 rfl rfl
theorem dX7_image_40 : decode cX7_image 40 = .ok (.iload 7, 2) := e_21 (x := 7) drcX7_image_0 40 rfl rfl
theorem dX7_image_42 : decode cX7_image 42 = .ok (.if_icmp .ge 66, 3) := e_162 (x := 0) (y := 66) drcX7_image_0 42 rfl rfl
theorem dX7_image_45 : decode cX7_image 45 = .ok (.aload 6, 2) := e_25 (x := 6) drcX7_image_0 45 rfl rfl
theorem dX7_image_47 : decode cX7_image 47 = .ok (.iload 8, 2) := e_21 (x := 8) drcX7_image_0 47 rfl rfl
theorem dX7_image_49 : decode cX7_image 49 = .ok (.iaload, 1) := dec_46 (gB drcX7_image_0 49 rfl rfl)
theorem dX7_image_50 : decode cX7_image 50 = .ok (.istore 9, 2) := e_54 (x := 9) drcX7_image_0 50 rfl rfl
theorem dX7_image_52 : decode cX7_image 52 = .ok (.iload 9, 2) := e_21 (x := 9) drcX7_image_0 52 rfl rfl
theorem dX7_image_54 : decode cX7_image 54 = .ok (.ifCond .ne 7, 3) := e_154 (x := 0) (y := 7) drcX7_image_0 54 rfl rfl
theorem dX7_image_57 : decode cX7_image 57 = .ok (.aload_n 1, 1) := dec_43 (gB drcX7_image_0 57 rfl rfl)
theorem dX7_image_58 : decode cX7_image 58 = .ok (.goto 4, 3) := e_167 (x := 0) (y := 4) drcX7_image_0 58 rfl rfl
theorem dX7_image_61 : decode cX7_image 61 = .ok (.aload_n 2, 1) := dec_44 (gB drcX7_image_0 61 rfl rfl)
theorem dX7_image_62 : decode cX7_image 62 = .ok (.astore 10, 2) := e_58 (x := 10) drcX7_image_0 62 rfl rfl
theorem dX7_image_64 : decode cX7_image 64 = .ok (.aload 10, 2) := e_25 (x := 10) drcX7_image_1 0 rfl rfl
theorem dX7_image_66 : decode cX7_image 66 = .ok (.arraylength, 1) := dec_190 (gB drcX7_image_1 2 rfl rfl)
theorem dX7_image_67 : decode cX7_image 67 = .ok (.istore 11, 2) := e_54 (x := 11) drcX7_image_1 3 rfl rfl
theorem dX7_image_69 : decode cX7_image 69 = .ok (.iconst 0, 1) := dec_3 (gB drcX7_image_1 5 rfl rfl)
theorem dX7_image_70 : decode cX7_image 70 = .ok (.istore 12, 2) := e_54 (x := 12) drcX7_image_1 6 rfl rfl
theorem dX7_image_72 : decode cX7_image 72 = .ok (.iload 12, 2) := e_21 (x := 12) drcX7_image_1 8 rfl rfl
theorem dX7_image_74 : decode cX7_image 74 = .ok (.iload 11, 2) := e_21 (x := 11) drcX7_image_1 10 rfl rfl
theorem dX7_image_76 : decode cX7_image 76 = .ok (.if_icmp .ge 26, 3) := e_162 (x := 0) (y := 26) drcX7_image_1 12 rfl rfl
theorem dX7_image_79 : decode cX7_image 79 = .ok (.aload 10, 2) := e_25 (x := 10) drcX7_image_1 15 rfl rfl
theorem dX7_image_81 : decode cX7_image 81 = .ok (.iload 12, 2) := e_21 (x := 12) drcX7_image_1 17 rfl rfl
theorem dX7_image_83 : decode cX7_image 83 = .ok (.iaload, 1) := dec_46 (gB drcX7_image_1 19 rfl rfl)
theorem dX7_image_84 : decode cX7_image 84 = .ok (.istore 13, 2) := e_54 (x := 13) drcX7_image_1 20 rfl rfl
theorem dX7_image_86 : decode cX7_image 86 = .ok (.aload 4, 2) := e_25 (x := 4) drcX7_image_1 22 rfl rfl
theorem dX7_image_88 : decode cX7_image 88 = .ok (.iload 5, 2) := e_21 (x := 5) drcX7_image_1 24 rfl rfl
theorem dX7_image_90 : decode cX7_image 90 = .ok (.iinc 5 1, 3) := e_132 (x := 5) (y := 1) drcX7_image_1 26 rfl rfl
theorem dX7_image_93 : decode cX7_image 93 = .ok (.iload 13, 2) := e_21 (x := 13) drcX7_image_1 29 rfl rfl
theorem dX7_image_95 : decode cX7_image 95 = .ok (.iastore, 1) := dec_79 (gB drcX7_image_1 31 rfl rfl)
theorem dX7_image_96 : decode cX7_image 96 = .ok (.iinc 12 1, 3) := e_132 (x := 12) (y := 1) drcX7_image_1 32 rfl rfl
theorem dX7_image_99 : decode cX7_image 99 = .ok (.goto (-27), 3) := e_167 (x := 255) (y := 229) drcX7_image_1 35 rfl rfl
theorem dX7_image_102 : decode cX7_image 102 = .ok (.iinc 8 1, 3) := e_132 (x := 8) (y := 1) drcX7_image_1 38 rfl rfl
theorem dX7_image_105 : decode cX7_image 105 = .ok (.goto (-67), 3) := e_167 (x := 255) (y := 189) drcX7_image_1 41 rfl rfl
theorem dX7_image_108 : decode cX7_image 108 = .ok (.aload 4, 2) := e_25 (x := 4) drcX7_image_1 44 rfl rfl
theorem dX7_image_110 : decode cX7_image 110 = .ok (.areturn, 1) := dec_176 (gB drcX7_image_1 46 rfl rfl)
def lkcX7_isMirrored_0 : List UInt8 := [0x03, 0x3e, 0x1d, 0x1c, 0x1b, 0x64, 0xa2, 0x00, 0x1a, 0x2a, 0x1b, 0x1d, 0x60, 0x2e, 0x2a, 0x1c, 0x04, 0x64, 0x1d, 0x64, 0x2e, 0x9f, 0x00, 0x05, 0x03, 0xac, 0x84, 0x03, 0x01, 0xa7, 0xff, 0xe5, 0x04, 0xac]
def tkcX7_isMirrored_0 : List UInt8 := lkcX7_isMirrored_0 ++ []
theorem drcX7_isMirrored_0 : (cX7_isMirrored).data.toList.drop 0 = lkcX7_isMirrored_0 ++ [] := by decide +kernel
theorem dX7_isMirrored_0 : decode cX7_isMirrored 0 = .ok (.iconst 0, 1) := dec_3 (gB drcX7_isMirrored_0 0 rfl rfl)
theorem dX7_isMirrored_1 : decode cX7_isMirrored 1 = .ok (.istore_n 3, 1) := dec_62 (gB drcX7_isMirrored_0 1 rfl rfl)
theorem dX7_isMirrored_2 : decode cX7_isMirrored 2 = .ok (.iload_n 3, 1) := dec_29 (gB drcX7_isMirrored_0 2 rfl rfl)
theorem dX7_isMirrored_3 : decode cX7_isMirrored 3 = .ok (.iload_n 2, 1) := dec_28 (gB drcX7_isMirrored_0 3 rfl rfl)
theorem dX7_isMirrored_4 : decode cX7_isMirrored 4 = .ok (.iload_n 1, 1) := dec_27 (gB drcX7_isMirrored_0 4 rfl rfl)
theorem dX7_isMirrored_5 : decode cX7_isMirrored 5 = .ok (.isub, 1) := dec_100 (gB drcX7_isMirrored_0 5 rfl rfl)
theorem dX7_isMirrored_6 : decode cX7_isMirrored 6 = .ok (.if_icmp .ge 26, 3) := e_162 (x := 0) (y := 26) drcX7_isMirrored_0 6 rfl rfl
theorem dX7_isMirrored_9 : decode cX7_isMirrored 9 = .ok (.aload_n 0, 1) := dec_42 (gB drcX7_isMirrored_0 9 rfl rfl)
theorem dX7_isMirrored_10 : decode cX7_isMirrored 10 = .ok (.iload_n 1, 1) := dec_27 (gB drcX7_isMirrored_0 10 rfl rfl)
theorem dX7_isMirrored_11 : decode cX7_isMirrored 11 = .ok (.iload_n 3, 1) := dec_29 (gB drcX7_isMirrored_0 11 rfl rfl)
theorem dX7_isMirrored_12 : decode cX7_isMirrored 12 = .ok (.iadd, 1) := dec_96 (gB drcX7_isMirrored_0 12 rfl rfl)
theorem dX7_isMirrored_13 : decode cX7_isMirrored 13 = .ok (.iaload, 1) := dec_46 (gB drcX7_isMirrored_0 13 rfl rfl)
theorem dX7_isMirrored_14 : decode cX7_isMirrored 14 = .ok (.aload_n 0, 1) := dec_42 (gB drcX7_isMirrored_0 14 rfl rfl)
theorem dX7_isMirrored_15 : decode cX7_isMirrored 15 = .ok (.iload_n 2, 1) := dec_28 (gB drcX7_isMirrored_0 15 rfl rfl)
theorem dX7_isMirrored_16 : decode cX7_isMirrored 16 = .ok (.iconst 1, 1) := dec_4 (gB drcX7_isMirrored_0 16 rfl rfl)
theorem dX7_isMirrored_17 : decode cX7_isMirrored 17 = .ok (.isub, 1) := dec_100 (gB drcX7_isMirrored_0 17 rfl rfl)
theorem dX7_isMirrored_18 : decode cX7_isMirrored 18 = .ok (.iload_n 3, 1) := dec_29 (gB drcX7_isMirrored_0 18 rfl rfl)
theorem dX7_isMirrored_19 : decode cX7_isMirrored 19 = .ok (.isub, 1) := dec_100 (gB drcX7_isMirrored_0 19 rfl rfl)
theorem dX7_isMirrored_20 : decode cX7_isMirrored 20 = .ok (.iaload, 1) := dec_46 (gB drcX7_isMirrored_0 20 rfl rfl)
theorem dX7_isMirrored_21 : decode cX7_isMirrored 21 = .ok (.if_icmp .eq 5, 3) := e_159 (x := 0) (y := 5) drcX7_isMirrored_0 21 rfl rfl
theorem dX7_isMirrored_24 : decode cX7_isMirrored 24 = .ok (.iconst 0, 1) := dec_3 (gB drcX7_isMirrored_0 24 rfl rfl)
theorem dX7_isMirrored_25 : decode cX7_isMirrored 25 = .ok (.ireturn, 1) := dec_172 (gB drcX7_isMirrored_0 25 rfl rfl)
theorem dX7_isMirrored_26 : decode cX7_isMirrored 26 = .ok (.iinc 3 1, 3) := e_132 (x := 3) (y := 1) drcX7_isMirrored_0 26 rfl rfl
theorem dX7_isMirrored_29 : decode cX7_isMirrored 29 = .ok (.goto (-27), 3) := e_167 (x := 255) (y := 229) drcX7_isMirrored_0 29 rfl rfl
theorem dX7_isMirrored_32 : decode cX7_isMirrored 32 = .ok (.iconst 1, 1) := dec_4 (gB drcX7_isMirrored_0 32 rfl rfl)
theorem dX7_isMirrored_33 : decode cX7_isMirrored 33 = .ok (.ireturn, 1) := dec_172 (gB drcX7_isMirrored_0 33 rfl rfl)
def lkcX7_comes_0 : List UInt8 := [0x2a, 0xb4, 0x00, 0x09, 0x1b, 0x2c, 0x53, 0x2a, 0x59, 0xb4, 0x00, 0x2d, 0x04, 0x60, 0xb5, 0x00, 0x2d, 0x2c, 0xbe, 0xac]
def tkcX7_comes_0 : List UInt8 := lkcX7_comes_0 ++ []
theorem drcX7_comes_0 : (cX7_comes).data.toList.drop 0 = lkcX7_comes_0 ++ [] := by decide +kernel
theorem dX7_comes_0 : decode cX7_comes 0 = .ok (.aload_n 0, 1) := dec_42 (gB drcX7_comes_0 0 rfl rfl)
theorem dX7_comes_1 : decode cX7_comes 1 = .ok (.getfield 9, 3) := e_180 (x := 0) (y := 9) drcX7_comes_0 1 rfl rfl
theorem dX7_comes_4 : decode cX7_comes 4 = .ok (.iload_n 1, 1) := dec_27 (gB drcX7_comes_0 4 rfl rfl)
theorem dX7_comes_5 : decode cX7_comes 5 = .ok (.aload_n 2, 1) := dec_44 (gB drcX7_comes_0 5 rfl rfl)
theorem dX7_comes_6 : decode cX7_comes 6 = .ok (.aastore, 1) := dec_83 (gB drcX7_comes_0 6 rfl rfl)
theorem dX7_comes_7 : decode cX7_comes 7 = .ok (.aload_n 0, 1) := dec_42 (gB drcX7_comes_0 7 rfl rfl)
theorem dX7_comes_8 : decode cX7_comes 8 = .ok (.dup, 1) := dec_89 (gB drcX7_comes_0 8 rfl rfl)
theorem dX7_comes_9 : decode cX7_comes 9 = .ok (.getfield 45, 3) := e_180 (x := 0) (y := 45) drcX7_comes_0 9 rfl rfl
theorem dX7_comes_12 : decode cX7_comes 12 = .ok (.iconst 1, 1) := dec_4 (gB drcX7_comes_0 12 rfl rfl)
theorem dX7_comes_13 : decode cX7_comes 13 = .ok (.iadd, 1) := dec_96 (gB drcX7_comes_0 13 rfl rfl)
theorem dX7_comes_14 : decode cX7_comes 14 = .ok (.putfield 45, 3) := e_181 (x := 0) (y := 45) drcX7_comes_0 14 rfl rfl
theorem dX7_comes_17 : decode cX7_comes 17 = .ok (.aload_n 2, 1) := dec_44 (gB drcX7_comes_0 17 rfl rfl)
theorem dX7_comes_18 : decode cX7_comes 18 = .ok (.arraylength, 1) := dec_190 (gB drcX7_comes_0 18 rfl rfl)
theorem dX7_comes_19 : decode cX7_comes 19 = .ok (.ireturn, 1) := dec_172 (gB drcX7_comes_0 19 rfl rfl)
def lkcX7_cannot_0 : List UInt8 := [0x2a, 0x59, 0xb4, 0x00, 0x30, 0x04, 0x60, 0xb5, 0x00, 0x30, 0x10, 0xf7, 0xac]
def tkcX7_cannot_0 : List UInt8 := lkcX7_cannot_0 ++ []
theorem drcX7_cannot_0 : (cX7_cannot).data.toList.drop 0 = lkcX7_cannot_0 ++ [] := by decide +kernel
theorem dX7_cannot_0 : decode cX7_cannot 0 = .ok (.aload_n 0, 1) := dec_42 (gB drcX7_cannot_0 0 rfl rfl)
theorem dX7_cannot_1 : decode cX7_cannot 1 = .ok (.dup, 1) := dec_89 (gB drcX7_cannot_0 1 rfl rfl)
theorem dX7_cannot_2 : decode cX7_cannot 2 = .ok (.getfield 48, 3) := e_180 (x := 0) (y := 48) drcX7_cannot_0 2 rfl rfl
theorem dX7_cannot_5 : decode cX7_cannot 5 = .ok (.iconst 1, 1) := dec_4 (gB drcX7_cannot_0 5 rfl rfl)
theorem dX7_cannot_6 : decode cX7_cannot 6 = .ok (.iadd, 1) := dec_96 (gB drcX7_cannot_0 6 rfl rfl)
theorem dX7_cannot_7 : decode cX7_cannot 7 = .ok (.putfield 48, 3) := e_181 (x := 0) (y := 48) drcX7_cannot_0 7 rfl rfl
theorem dX7_cannot_10 : decode cX7_cannot 10 = .ok (.bipush (-9), 2) := e_16 (x := 247) drcX7_cannot_0 10 rfl rfl
theorem dX7_cannot_12 : decode cX7_cannot 12 = .ok (.ireturn, 1) := dec_172 (gB drcX7_cannot_0 12 rfl rfl)
def lkcX7_write_0 : List UInt8 := [0x2a, 0x1b, 0xb8, 0x00, 0x21, 0x04, 0xb6, 0x00, 0x33, 0x9a, 0x00, 0x1a, 0x2a, 0x1c, 0x04, 0x12, 0x36, 0xb8, 0x00, 0x1d, 0x9a, 0x00, 0x07, 0x04, 0xa7, 0x00, 0x04, 0x03, 0x05, 0xb6, 0x00, 0x19, 0x99, 0x00, 0x05, 0x03, 0xac, 0x2a, 0x1b, 0x1c, 0xb8, 0x00, 0x37, 0xb6, 0x00, 0x3b, 0xac]
def tkcX7_write_0 : List UInt8 := lkcX7_write_0 ++ []
theorem drcX7_write_0 : (cX7_write).data.toList.drop 0 = lkcX7_write_0 ++ [] := by decide +kernel
theorem dX7_write_0 : decode cX7_write 0 = .ok (.aload_n 0, 1) := dec_42 (gB drcX7_write_0 0 rfl rfl)
theorem dX7_write_1 : decode cX7_write 1 = .ok (.iload_n 1, 1) := dec_27 (gB drcX7_write_0 1 rfl rfl)
theorem dX7_write_2 : decode cX7_write 2 = .ok (.invokestatic 33, 3) := e_184 (x := 0) (y := 33) drcX7_write_0 2 rfl rfl
theorem dX7_write_5 : decode cX7_write 5 = .ok (.iconst 1, 1) := dec_4 (gB drcX7_write_0 5 rfl rfl)
theorem dX7_write_6 : decode cX7_write 6 = .ok (.invokevirtual 51, 3) := e_182 (x := 0) (y := 51) drcX7_write_0 6 rfl rfl
theorem dX7_write_9 : decode cX7_write 9 = .ok (.ifCond .ne 26, 3) := e_154 (x := 0) (y := 26) drcX7_write_0 9 rfl rfl
theorem dX7_write_12 : decode cX7_write 12 = .ok (.aload_n 0, 1) := dec_42 (gB drcX7_write_0 12 rfl rfl)
theorem dX7_write_13 : decode cX7_write 13 = .ok (.iload_n 2, 1) := dec_28 (gB drcX7_write_0 13 rfl rfl)
theorem dX7_write_14 : decode cX7_write 14 = .ok (.iconst 1, 1) := dec_4 (gB drcX7_write_0 14 rfl rfl)
theorem dX7_write_15 : decode cX7_write 15 = .ok (.ldc 54, 2) := e_18 (x := 54) drcX7_write_0 15 rfl rfl
theorem dX7_write_17 : decode cX7_write 17 = .ok (.invokestatic 29, 3) := e_184 (x := 0) (y := 29) drcX7_write_0 17 rfl rfl
theorem dX7_write_20 : decode cX7_write 20 = .ok (.ifCond .ne 7, 3) := e_154 (x := 0) (y := 7) drcX7_write_0 20 rfl rfl
theorem dX7_write_23 : decode cX7_write 23 = .ok (.iconst 1, 1) := dec_4 (gB drcX7_write_0 23 rfl rfl)
theorem dX7_write_24 : decode cX7_write 24 = .ok (.goto 4, 3) := e_167 (x := 0) (y := 4) drcX7_write_0 24 rfl rfl
theorem dX7_write_27 : decode cX7_write 27 = .ok (.iconst 0, 1) := dec_3 (gB drcX7_write_0 27 rfl rfl)
theorem dX7_write_28 : decode cX7_write 28 = .ok (.iconst 2, 1) := dec_5 (gB drcX7_write_0 28 rfl rfl)
theorem dX7_write_29 : decode cX7_write 29 = .ok (.invokevirtual 25, 3) := e_182 (x := 0) (y := 25) drcX7_write_0 29 rfl rfl
theorem dX7_write_32 : decode cX7_write 32 = .ok (.ifCond .eq 5, 3) := e_153 (x := 0) (y := 5) drcX7_write_0 32 rfl rfl
theorem dX7_write_35 : decode cX7_write 35 = .ok (.iconst 0, 1) := dec_3 (gB drcX7_write_0 35 rfl rfl)
theorem dX7_write_36 : decode cX7_write 36 = .ok (.ireturn, 1) := dec_172 (gB drcX7_write_0 36 rfl rfl)
theorem dX7_write_37 : decode cX7_write 37 = .ok (.aload_n 0, 1) := dec_42 (gB drcX7_write_0 37 rfl rfl)
theorem dX7_write_38 : decode cX7_write 38 = .ok (.iload_n 1, 1) := dec_27 (gB drcX7_write_0 38 rfl rfl)
theorem dX7_write_39 : decode cX7_write 39 = .ok (.iload_n 2, 1) := dec_28 (gB drcX7_write_0 39 rfl rfl)
theorem dX7_write_40 : decode cX7_write 40 = .ok (.invokestatic 55, 3) := e_184 (x := 0) (y := 55) drcX7_write_0 40 rfl rfl
theorem dX7_write_43 : decode cX7_write 43 = .ok (.invokevirtual 59, 3) := e_182 (x := 0) (y := 59) drcX7_write_0 43 rfl rfl
theorem dX7_write_46 : decode cX7_write 46 = .ok (.ireturn, 1) := dec_172 (gB drcX7_write_0 46 rfl rfl)
def lkcX7_put_0 : List UInt8 := [0x2a, 0xb4, 0x00, 0x09, 0x1b, 0x32, 0xbe, 0x1d, 0x1c, 0x64, 0x64, 0x19, 0x04, 0xbe, 0x60, 0x10, 0x40, 0xa4, 0x00, 0x08, 0x2a, 0xb6, 0x00, 0x3f, 0xac, 0x2a, 0x1b, 0x2a, 0xb4, 0x00, 0x09, 0x1b, 0x32, 0x1c, 0x1d, 0x19, 0x04, 0xb8, 0x00, 0x43, 0xb6, 0x00, 0x3b, 0xac]
def tkcX7_put_0 : List UInt8 := lkcX7_put_0 ++ []
theorem drcX7_put_0 : (cX7_put).data.toList.drop 0 = lkcX7_put_0 ++ [] := by decide +kernel
theorem dX7_put_0 : decode cX7_put 0 = .ok (.aload_n 0, 1) := dec_42 (gB drcX7_put_0 0 rfl rfl)
theorem dX7_put_1 : decode cX7_put 1 = .ok (.getfield 9, 3) := e_180 (x := 0) (y := 9) drcX7_put_0 1 rfl rfl
theorem dX7_put_4 : decode cX7_put 4 = .ok (.iload_n 1, 1) := dec_27 (gB drcX7_put_0 4 rfl rfl)
theorem dX7_put_5 : decode cX7_put 5 = .ok (.aaload, 1) := dec_50 (gB drcX7_put_0 5 rfl rfl)
theorem dX7_put_6 : decode cX7_put 6 = .ok (.arraylength, 1) := dec_190 (gB drcX7_put_0 6 rfl rfl)
theorem dX7_put_7 : decode cX7_put 7 = .ok (.iload_n 3, 1) := dec_29 (gB drcX7_put_0 7 rfl rfl)
theorem dX7_put_8 : decode cX7_put 8 = .ok (.iload_n 2, 1) := dec_28 (gB drcX7_put_0 8 rfl rfl)
theorem dX7_put_9 : decode cX7_put 9 = .ok (.isub, 1) := dec_100 (gB drcX7_put_0 9 rfl rfl)
theorem dX7_put_10 : decode cX7_put 10 = .ok (.isub, 1) := dec_100 (gB drcX7_put_0 10 rfl rfl)
theorem dX7_put_11 : decode cX7_put 11 = .ok (.aload 4, 2) := e_25 (x := 4) drcX7_put_0 11 rfl rfl
theorem dX7_put_13 : decode cX7_put 13 = .ok (.arraylength, 1) := dec_190 (gB drcX7_put_0 13 rfl rfl)
theorem dX7_put_14 : decode cX7_put 14 = .ok (.iadd, 1) := dec_96 (gB drcX7_put_0 14 rfl rfl)
theorem dX7_put_15 : decode cX7_put 15 = .ok (.bipush 64, 2) := e_16 (x := 64) drcX7_put_0 15 rfl rfl
theorem dX7_put_17 : decode cX7_put 17 = .ok (.if_icmp .le 8, 3) := e_164 (x := 0) (y := 8) drcX7_put_0 17 rfl rfl
theorem dX7_put_20 : decode cX7_put 20 = .ok (.aload_n 0, 1) := dec_42 (gB drcX7_put_0 20 rfl rfl)
theorem dX7_put_21 : decode cX7_put 21 = .ok (.invokevirtual 63, 3) := e_182 (x := 0) (y := 63) drcX7_put_0 21 rfl rfl
theorem dX7_put_24 : decode cX7_put 24 = .ok (.ireturn, 1) := dec_172 (gB drcX7_put_0 24 rfl rfl)
theorem dX7_put_25 : decode cX7_put 25 = .ok (.aload_n 0, 1) := dec_42 (gB drcX7_put_0 25 rfl rfl)
theorem dX7_put_26 : decode cX7_put 26 = .ok (.iload_n 1, 1) := dec_27 (gB drcX7_put_0 26 rfl rfl)
theorem dX7_put_27 : decode cX7_put 27 = .ok (.aload_n 0, 1) := dec_42 (gB drcX7_put_0 27 rfl rfl)
theorem dX7_put_28 : decode cX7_put 28 = .ok (.getfield 9, 3) := e_180 (x := 0) (y := 9) drcX7_put_0 28 rfl rfl
theorem dX7_put_31 : decode cX7_put 31 = .ok (.iload_n 1, 1) := dec_27 (gB drcX7_put_0 31 rfl rfl)
theorem dX7_put_32 : decode cX7_put 32 = .ok (.aaload, 1) := dec_50 (gB drcX7_put_0 32 rfl rfl)
theorem dX7_put_33 : decode cX7_put 33 = .ok (.iload_n 2, 1) := dec_28 (gB drcX7_put_0 33 rfl rfl)
theorem dX7_put_34 : decode cX7_put 34 = .ok (.iload_n 3, 1) := dec_29 (gB drcX7_put_0 34 rfl rfl)
theorem dX7_put_35 : decode cX7_put 35 = .ok (.aload 4, 2) := e_25 (x := 4) drcX7_put_0 35 rfl rfl
theorem dX7_put_37 : decode cX7_put 37 = .ok (.invokestatic 67, 3) := e_184 (x := 0) (y := 67) drcX7_put_0 37 rfl rfl
theorem dX7_put_40 : decode cX7_put 40 = .ok (.invokevirtual 59, 3) := e_182 (x := 0) (y := 59) drcX7_put_0 40 rfl rfl
theorem dX7_put_43 : decode cX7_put 43 = .ok (.ireturn, 1) := dec_172 (gB drcX7_put_0 43 rfl rfl)
def lkcX7_append_0 : List UInt8 := [0x2a, 0x1b, 0xb8, 0x00, 0x21, 0x9a, 0x00, 0x0a, 0x1c, 0xb8, 0x00, 0x21, 0x99, 0x00, 0x07, 0x04, 0xa7, 0x00, 0x04, 0x03, 0x04, 0xb6, 0x00, 0x33, 0x99, 0x00, 0x05, 0x03, 0xac, 0x2a, 0x1b, 0x2a, 0xb4, 0x00, 0x09, 0x1b, 0x32, 0xbe, 0x2a, 0xb4, 0x00, 0x09, 0x1b, 0x32, 0xbe, 0x2a, 0xb4, 0x00, 0x09, 0x1c, 0x32, 0xb6, 0x00, 0x47, 0xac]
def tkcX7_append_0 : List UInt8 := lkcX7_append_0 ++ []
theorem drcX7_append_0 : (cX7_append).data.toList.drop 0 = lkcX7_append_0 ++ [] := by decide +kernel
theorem dX7_append_0 : decode cX7_append 0 = .ok (.aload_n 0, 1) := dec_42 (gB drcX7_append_0 0 rfl rfl)
theorem dX7_append_1 : decode cX7_append 1 = .ok (.iload_n 1, 1) := dec_27 (gB drcX7_append_0 1 rfl rfl)
theorem dX7_append_2 : decode cX7_append 2 = .ok (.invokestatic 33, 3) := e_184 (x := 0) (y := 33) drcX7_append_0 2 rfl rfl
theorem dX7_append_5 : decode cX7_append 5 = .ok (.ifCond .ne 10, 3) := e_154 (x := 0) (y := 10) drcX7_append_0 5 rfl rfl
theorem dX7_append_8 : decode cX7_append 8 = .ok (.iload_n 2, 1) := dec_28 (gB drcX7_append_0 8 rfl rfl)
theorem dX7_append_9 : decode cX7_append 9 = .ok (.invokestatic 33, 3) := e_184 (x := 0) (y := 33) drcX7_append_0 9 rfl rfl
theorem dX7_append_12 : decode cX7_append 12 = .ok (.ifCond .eq 7, 3) := e_153 (x := 0) (y := 7) drcX7_append_0 12 rfl rfl
theorem dX7_append_15 : decode cX7_append 15 = .ok (.iconst 1, 1) := dec_4 (gB drcX7_append_0 15 rfl rfl)
theorem dX7_append_16 : decode cX7_append 16 = .ok (.goto 4, 3) := e_167 (x := 0) (y := 4) drcX7_append_0 16 rfl rfl
theorem dX7_append_19 : decode cX7_append 19 = .ok (.iconst 0, 1) := dec_3 (gB drcX7_append_0 19 rfl rfl)
theorem dX7_append_20 : decode cX7_append 20 = .ok (.iconst 1, 1) := dec_4 (gB drcX7_append_0 20 rfl rfl)
theorem dX7_append_21 : decode cX7_append 21 = .ok (.invokevirtual 51, 3) := e_182 (x := 0) (y := 51) drcX7_append_0 21 rfl rfl
theorem dX7_append_24 : decode cX7_append 24 = .ok (.ifCond .eq 5, 3) := e_153 (x := 0) (y := 5) drcX7_append_0 24 rfl rfl
theorem dX7_append_27 : decode cX7_append 27 = .ok (.iconst 0, 1) := dec_3 (gB drcX7_append_0 27 rfl rfl)
theorem dX7_append_28 : decode cX7_append 28 = .ok (.ireturn, 1) := dec_172 (gB drcX7_append_0 28 rfl rfl)
theorem dX7_append_29 : decode cX7_append 29 = .ok (.aload_n 0, 1) := dec_42 (gB drcX7_append_0 29 rfl rfl)
theorem dX7_append_30 : decode cX7_append 30 = .ok (.iload_n 1, 1) := dec_27 (gB drcX7_append_0 30 rfl rfl)
theorem dX7_append_31 : decode cX7_append 31 = .ok (.aload_n 0, 1) := dec_42 (gB drcX7_append_0 31 rfl rfl)
theorem dX7_append_32 : decode cX7_append 32 = .ok (.getfield 9, 3) := e_180 (x := 0) (y := 9) drcX7_append_0 32 rfl rfl
theorem dX7_append_35 : decode cX7_append 35 = .ok (.iload_n 1, 1) := dec_27 (gB drcX7_append_0 35 rfl rfl)
theorem dX7_append_36 : decode cX7_append 36 = .ok (.aaload, 1) := dec_50 (gB drcX7_append_0 36 rfl rfl)
theorem dX7_append_37 : decode cX7_append 37 = .ok (.arraylength, 1) := dec_190 (gB drcX7_append_0 37 rfl rfl)
theorem dX7_append_38 : decode cX7_append 38 = .ok (.aload_n 0, 1) := dec_42 (gB drcX7_append_0 38 rfl rfl)
theorem dX7_append_39 : decode cX7_append 39 = .ok (.getfield 9, 3) := e_180 (x := 0) (y := 9) drcX7_append_0 39 rfl rfl
theorem dX7_append_42 : decode cX7_append 42 = .ok (.iload_n 1, 1) := dec_27 (gB drcX7_append_0 42 rfl rfl)
theorem dX7_append_43 : decode cX7_append 43 = .ok (.aaload, 1) := dec_50 (gB drcX7_append_0 43 rfl rfl)
theorem dX7_append_44 : decode cX7_append 44 = .ok (.arraylength, 1) := dec_190 (gB drcX7_append_0 44 rfl rfl)
theorem dX7_append_45 : decode cX7_append 45 = .ok (.aload_n 0, 1) := dec_42 (gB drcX7_append_0 45 rfl rfl)
theorem dX7_append_46 : decode cX7_append 46 = .ok (.getfield 9, 3) := e_180 (x := 0) (y := 9) drcX7_append_0 46 rfl rfl
theorem dX7_append_49 : decode cX7_append 49 = .ok (.iload_n 2, 1) := dec_28 (gB drcX7_append_0 49 rfl rfl)
theorem dX7_append_50 : decode cX7_append 50 = .ok (.aaload, 1) := dec_50 (gB drcX7_append_0 50 rfl rfl)
theorem dX7_append_51 : decode cX7_append 51 = .ok (.invokevirtual 71, 3) := e_182 (x := 0) (y := 71) drcX7_append_0 51 rfl rfl
theorem dX7_append_54 : decode cX7_append 54 = .ok (.ireturn, 1) := dec_172 (gB drcX7_append_0 54 rfl rfl)
def lkcX7_insertSign_0 : List UInt8 := [0x2a, 0x2a, 0x1b, 0x1c, 0xb6, 0x00, 0x4b, 0x04, 0xb6, 0x00, 0x33, 0x99, 0x00, 0x05, 0x03, 0xac, 0x2a, 0x1b, 0x1c, 0x1c, 0x04, 0xbc, 0x0a, 0x59, 0x03, 0x1d, 0xb8, 0x00, 0x4f, 0x4f, 0xb6, 0x00, 0x47, 0xac]
def tkcX7_insertSign_0 : List UInt8 := lkcX7_insertSign_0 ++ []
theorem drcX7_insertSign_0 : (cX7_insertSign).data.toList.drop 0 = lkcX7_insertSign_0 ++ [] := by decide +kernel
theorem dX7_insertSign_0 : decode cX7_insertSign 0 = .ok (.aload_n 0, 1) := dec_42 (gB drcX7_insertSign_0 0 rfl rfl)
theorem dX7_insertSign_1 : decode cX7_insertSign 1 = .ok (.aload_n 0, 1) := dec_42 (gB drcX7_insertSign_0 1 rfl rfl)
theorem dX7_insertSign_2 : decode cX7_insertSign 2 = .ok (.iload_n 1, 1) := dec_27 (gB drcX7_insertSign_0 2 rfl rfl)
theorem dX7_insertSign_3 : decode cX7_insertSign 3 = .ok (.iload_n 2, 1) := dec_28 (gB drcX7_insertSign_0 3 rfl rfl)
theorem dX7_insertSign_4 : decode cX7_insertSign 4 = .ok (.invokevirtual 75, 3) := e_182 (x := 0) (y := 75) drcX7_insertSign_0 4 rfl rfl
theorem dX7_insertSign_7 : decode cX7_insertSign 7 = .ok (.iconst 1, 1) := dec_4 (gB drcX7_insertSign_0 7 rfl rfl)
theorem dX7_insertSign_8 : decode cX7_insertSign 8 = .ok (.invokevirtual 51, 3) := e_182 (x := 0) (y := 51) drcX7_insertSign_0 8 rfl rfl
theorem dX7_insertSign_11 : decode cX7_insertSign 11 = .ok (.ifCond .eq 5, 3) := e_153 (x := 0) (y := 5) drcX7_insertSign_0 11 rfl rfl
theorem dX7_insertSign_14 : decode cX7_insertSign 14 = .ok (.iconst 0, 1) := dec_3 (gB drcX7_insertSign_0 14 rfl rfl)
theorem dX7_insertSign_15 : decode cX7_insertSign 15 = .ok (.ireturn, 1) := dec_172 (gB drcX7_insertSign_0 15 rfl rfl)
theorem dX7_insertSign_16 : decode cX7_insertSign 16 = .ok (.aload_n 0, 1) := dec_42 (gB drcX7_insertSign_0 16 rfl rfl)
theorem dX7_insertSign_17 : decode cX7_insertSign 17 = .ok (.iload_n 1, 1) := dec_27 (gB drcX7_insertSign_0 17 rfl rfl)
theorem dX7_insertSign_18 : decode cX7_insertSign 18 = .ok (.iload_n 2, 1) := dec_28 (gB drcX7_insertSign_0 18 rfl rfl)
theorem dX7_insertSign_19 : decode cX7_insertSign 19 = .ok (.iload_n 2, 1) := dec_28 (gB drcX7_insertSign_0 19 rfl rfl)
theorem dX7_insertSign_20 : decode cX7_insertSign 20 = .ok (.iconst 1, 1) := dec_4 (gB drcX7_insertSign_0 20 rfl rfl)
theorem dX7_insertSign_21 : decode cX7_insertSign 21 = .ok (.newarray .int, 2) := by decide +kernel
theorem dX7_insertSign_23 : decode cX7_insertSign 23 = .ok (.dup, 1) := dec_89 (gB drcX7_insertSign_0 23 rfl rfl)
theorem dX7_insertSign_24 : decode cX7_insertSign 24 = .ok (.iconst 0, 1) := dec_3 (gB drcX7_insertSign_0 24 rfl rfl)
theorem dX7_insertSign_25 : decode cX7_insertSign 25 = .ok (.iload_n 3, 1) := dec_29 (gB drcX7_insertSign_0 25 rfl rfl)
theorem dX7_insertSign_26 : decode cX7_insertSign 26 = .ok (.invokestatic 79, 3) := e_184 (x := 0) (y := 79) drcX7_insertSign_0 26 rfl rfl
theorem dX7_insertSign_29 : decode cX7_insertSign 29 = .ok (.iastore, 1) := dec_79 (gB drcX7_insertSign_0 29 rfl rfl)
theorem dX7_insertSign_30 : decode cX7_insertSign 30 = .ok (.invokevirtual 71, 3) := e_182 (x := 0) (y := 71) drcX7_insertSign_0 30 rfl rfl
theorem dX7_insertSign_33 : decode cX7_insertSign 33 = .ok (.ireturn, 1) := dec_172 (gB drcX7_insertSign_0 33 rfl rfl)
def lkcX7_insertSheet_0 : List UInt8 := [0x2a, 0x2a, 0x1b, 0x1c, 0xb6, 0x00, 0x4b, 0x9a, 0x00, 0x0a, 0x1d, 0xb8, 0x00, 0x21, 0x99, 0x00, 0x07, 0x04, 0xa7, 0x00, 0x04, 0x03, 0x04, 0xb6, 0x00, 0x33, 0x99, 0x00, 0x05, 0x03, 0xac, 0x2a, 0x1b, 0x1c, 0x1c, 0x2a, 0xb4, 0x00, 0x09, 0x1d, 0x32, 0xb6, 0x00, 0x47, 0xac]
def tkcX7_insertSheet_0 : List UInt8 := lkcX7_insertSheet_0 ++ []
theorem drcX7_insertSheet_0 : (cX7_insertSheet).data.toList.drop 0 = lkcX7_insertSheet_0 ++ [] := by decide +kernel
theorem dX7_insertSheet_0 : decode cX7_insertSheet 0 = .ok (.aload_n 0, 1) := dec_42 (gB drcX7_insertSheet_0 0 rfl rfl)
theorem dX7_insertSheet_1 : decode cX7_insertSheet 1 = .ok (.aload_n 0, 1) := dec_42 (gB drcX7_insertSheet_0 1 rfl rfl)
theorem dX7_insertSheet_2 : decode cX7_insertSheet 2 = .ok (.iload_n 1, 1) := dec_27 (gB drcX7_insertSheet_0 2 rfl rfl)
theorem dX7_insertSheet_3 : decode cX7_insertSheet 3 = .ok (.iload_n 2, 1) := dec_28 (gB drcX7_insertSheet_0 3 rfl rfl)
theorem dX7_insertSheet_4 : decode cX7_insertSheet 4 = .ok (.invokevirtual 75, 3) := e_182 (x := 0) (y := 75) drcX7_insertSheet_0 4 rfl rfl
theorem dX7_insertSheet_7 : decode cX7_insertSheet 7 = .ok (.ifCond .ne 10, 3) := e_154 (x := 0) (y := 10) drcX7_insertSheet_0 7 rfl rfl
theorem dX7_insertSheet_10 : decode cX7_insertSheet 10 = .ok (.iload_n 3, 1) := dec_29 (gB drcX7_insertSheet_0 10 rfl rfl)
theorem dX7_insertSheet_11 : decode cX7_insertSheet 11 = .ok (.invokestatic 33, 3) := e_184 (x := 0) (y := 33) drcX7_insertSheet_0 11 rfl rfl
theorem dX7_insertSheet_14 : decode cX7_insertSheet 14 = .ok (.ifCond .eq 7, 3) := e_153 (x := 0) (y := 7) drcX7_insertSheet_0 14 rfl rfl
theorem dX7_insertSheet_17 : decode cX7_insertSheet 17 = .ok (.iconst 1, 1) := dec_4 (gB drcX7_insertSheet_0 17 rfl rfl)
theorem dX7_insertSheet_18 : decode cX7_insertSheet 18 = .ok (.goto 4, 3) := e_167 (x := 0) (y := 4) drcX7_insertSheet_0 18 rfl rfl
theorem dX7_insertSheet_21 : decode cX7_insertSheet 21 = .ok (.iconst 0, 1) := dec_3 (gB drcX7_insertSheet_0 21 rfl rfl)
theorem dX7_insertSheet_22 : decode cX7_insertSheet 22 = .ok (.iconst 1, 1) := dec_4 (gB drcX7_insertSheet_0 22 rfl rfl)
theorem dX7_insertSheet_23 : decode cX7_insertSheet 23 = .ok (.invokevirtual 51, 3) := e_182 (x := 0) (y := 51) drcX7_insertSheet_0 23 rfl rfl
theorem dX7_insertSheet_26 : decode cX7_insertSheet 26 = .ok (.ifCond .eq 5, 3) := e_153 (x := 0) (y := 5) drcX7_insertSheet_0 26 rfl rfl
theorem dX7_insertSheet_29 : decode cX7_insertSheet 29 = .ok (.iconst 0, 1) := dec_3 (gB drcX7_insertSheet_0 29 rfl rfl)
theorem dX7_insertSheet_30 : decode cX7_insertSheet 30 = .ok (.ireturn, 1) := dec_172 (gB drcX7_insertSheet_0 30 rfl rfl)
theorem dX7_insertSheet_31 : decode cX7_insertSheet 31 = .ok (.aload_n 0, 1) := dec_42 (gB drcX7_insertSheet_0 31 rfl rfl)
theorem dX7_insertSheet_32 : decode cX7_insertSheet 32 = .ok (.iload_n 1, 1) := dec_27 (gB drcX7_insertSheet_0 32 rfl rfl)
theorem dX7_insertSheet_33 : decode cX7_insertSheet 33 = .ok (.iload_n 2, 1) := dec_28 (gB drcX7_insertSheet_0 33 rfl rfl)
theorem dX7_insertSheet_34 : decode cX7_insertSheet 34 = .ok (.iload_n 2, 1) := dec_28 (gB drcX7_insertSheet_0 34 rfl rfl)
theorem dX7_insertSheet_35 : decode cX7_insertSheet 35 = .ok (.aload_n 0, 1) := dec_42 (gB drcX7_insertSheet_0 35 rfl rfl)
theorem dX7_insertSheet_36 : decode cX7_insertSheet 36 = .ok (.getfield 9, 3) := e_180 (x := 0) (y := 9) drcX7_insertSheet_0 36 rfl rfl
theorem dX7_insertSheet_39 : decode cX7_insertSheet 39 = .ok (.iload_n 3, 1) := dec_29 (gB drcX7_insertSheet_0 39 rfl rfl)
theorem dX7_insertSheet_40 : decode cX7_insertSheet 40 = .ok (.aaload, 1) := dec_50 (gB drcX7_insertSheet_0 40 rfl rfl)
theorem dX7_insertSheet_41 : decode cX7_insertSheet 41 = .ok (.invokevirtual 71, 3) := e_182 (x := 0) (y := 71) drcX7_insertSheet_0 41 rfl rfl
theorem dX7_insertSheet_44 : decode cX7_insertSheet 44 = .ok (.ireturn, 1) := dec_172 (gB drcX7_insertSheet_0 44 rfl rfl)
def lkcX7_setSign_0 : List UInt8 := [0x2a, 0x2a, 0x1b, 0x1c, 0xb6, 0x00, 0x53, 0x04, 0xb6, 0x00, 0x33, 0x99, 0x00, 0x05, 0x03, 0xac, 0x2a, 0xb4, 0x00, 0x09, 0x1b, 0x32, 0x1c, 0x2e, 0x36, 0x04, 0x2a, 0x1b, 0x2a, 0xb4, 0x00, 0x09, 0x1b, 0x32, 0x1c, 0x1c, 0x04, 0x60, 0x04, 0xbc, 0x0a, 0x59, 0x03, 0x1d, 0xb8, 0x00, 0x4f, 0x4f, 0xb8, 0x00, 0x43, 0xb6, 0x00, 0x3b, 0x57, 0x15, 0x04, 0x1d, 0xb8, 0x00, 0x4f, 0x9f, 0x00, 0x07]
def lkcX7_setSign_1 : List UInt8 := [0x04, 0xa7, 0x00, 0x04, 0x03, 0xb8, 0x00, 0x4f, 0xac]
def tkcX7_setSign_1 : List UInt8 := lkcX7_setSign_1 ++ []
def tkcX7_setSign_0 : List UInt8 := lkcX7_setSign_0 ++ tkcX7_setSign_1
theorem drcX7_setSign_0 : (cX7_setSign).data.toList.drop 0 = lkcX7_setSign_0 ++ tkcX7_setSign_1 := by decide +kernel
theorem drcX7_setSign_1 : (cX7_setSign).data.toList.drop 64 = lkcX7_setSign_1 ++ [] := dr_step drcX7_setSign_0 rfl
theorem dX7_setSign_0 : decode cX7_setSign 0 = .ok (.aload_n 0, 1) := dec_42 (gB drcX7_setSign_0 0 rfl rfl)
theorem dX7_setSign_1 : decode cX7_setSign 1 = .ok (.aload_n 0, 1) := dec_42 (gB drcX7_setSign_0 1 rfl rfl)
theorem dX7_setSign_2 : decode cX7_setSign 2 = .ok (.iload_n 1, 1) := dec_27 (gB drcX7_setSign_0 2 rfl rfl)
theorem dX7_setSign_3 : decode cX7_setSign 3 = .ok (.iload_n 2, 1) := dec_28 (gB drcX7_setSign_0 3 rfl rfl)
theorem dX7_setSign_4 : decode cX7_setSign 4 = .ok (.invokevirtual 83, 3) := e_182 (x := 0) (y := 83) drcX7_setSign_0 4 rfl rfl
theorem dX7_setSign_7 : decode cX7_setSign 7 = .ok (.iconst 1, 1) := dec_4 (gB drcX7_setSign_0 7 rfl rfl)
theorem dX7_setSign_8 : decode cX7_setSign 8 = .ok (.invokevirtual 51, 3) := e_182 (x := 0) (y := 51) drcX7_setSign_0 8 rfl rfl
theorem dX7_setSign_11 : decode cX7_setSign 11 = .ok (.ifCond .eq 5, 3) := e_153 (x := 0) (y := 5) drcX7_setSign_0 11 rfl rfl
theorem dX7_setSign_14 : decode cX7_setSign 14 = .ok (.iconst 0, 1) := dec_3 (gB drcX7_setSign_0 14 rfl rfl)
theorem dX7_setSign_15 : decode cX7_setSign 15 = .ok (.ireturn, 1) := dec_172 (gB drcX7_setSign_0 15 rfl rfl)
theorem dX7_setSign_16 : decode cX7_setSign 16 = .ok (.aload_n 0, 1) := dec_42 (gB drcX7_setSign_0 16 rfl rfl)
theorem dX7_setSign_17 : decode cX7_setSign 17 = .ok (.getfield 9, 3) := e_180 (x := 0) (y := 9) drcX7_setSign_0 17 rfl rfl
theorem dX7_setSign_20 : decode cX7_setSign 20 = .ok (.iload_n 1, 1) := dec_27 (gB drcX7_setSign_0 20 rfl rfl)
theorem dX7_setSign_21 : decode cX7_setSign 21 = .ok (.aaload, 1) := dec_50 (gB drcX7_setSign_0 21 rfl rfl)
theorem dX7_setSign_22 : decode cX7_setSign 22 = .ok (.iload_n 2, 1) := dec_28 (gB drcX7_setSign_0 22 rfl rfl)
theorem dX7_setSign_23 : decode cX7_setSign 23 = .ok (.iaload, 1) := dec_46 (gB drcX7_setSign_0 23 rfl rfl)
theorem dX7_setSign_24 : decode cX7_setSign 24 = .ok (.istore 4, 2) := e_54 (x := 4) drcX7_setSign_0 24 rfl rfl
theorem dX7_setSign_26 : decode cX7_setSign 26 = .ok (.aload_n 0, 1) := dec_42 (gB drcX7_setSign_0 26 rfl rfl)
theorem dX7_setSign_27 : decode cX7_setSign 27 = .ok (.iload_n 1, 1) := dec_27 (gB drcX7_setSign_0 27 rfl rfl)
theorem dX7_setSign_28 : decode cX7_setSign 28 = .ok (.aload_n 0, 1) := dec_42 (gB drcX7_setSign_0 28 rfl rfl)
theorem dX7_setSign_29 : decode cX7_setSign 29 = .ok (.getfield 9, 3) := e_180 (x := 0) (y := 9) drcX7_setSign_0 29 rfl rfl
theorem dX7_setSign_32 : decode cX7_setSign 32 = .ok (.iload_n 1, 1) := dec_27 (gB drcX7_setSign_0 32 rfl rfl)
theorem dX7_setSign_33 : decode cX7_setSign 33 = .ok (.aaload, 1) := dec_50 (gB drcX7_setSign_0 33 rfl rfl)
theorem dX7_setSign_34 : decode cX7_setSign 34 = .ok (.iload_n 2, 1) := dec_28 (gB drcX7_setSign_0 34 rfl rfl)
theorem dX7_setSign_35 : decode cX7_setSign 35 = .ok (.iload_n 2, 1) := dec_28 (gB drcX7_setSign_0 35 rfl rfl)
theorem dX7_setSign_36 : decode cX7_setSign 36 = .ok (.iconst 1, 1) := dec_4 (gB drcX7_setSign_0 36 rfl rfl)
theorem dX7_setSign_37 : decode cX7_setSign 37 = .ok (.iadd, 1) := dec_96 (gB drcX7_setSign_0 37 rfl rfl)
theorem dX7_setSign_38 : decode cX7_setSign 38 = .ok (.iconst 1, 1) := dec_4 (gB drcX7_setSign_0 38 rfl rfl)
theorem dX7_setSign_39 : decode cX7_setSign 39 = .ok (.newarray .int, 2) := by decide +kernel
theorem dX7_setSign_41 : decode cX7_setSign 41 = .ok (.dup, 1) := dec_89 (gB drcX7_setSign_0 41 rfl rfl)
theorem dX7_setSign_42 : decode cX7_setSign 42 = .ok (.iconst 0, 1) := dec_3 (gB drcX7_setSign_0 42 rfl rfl)
theorem dX7_setSign_43 : decode cX7_setSign 43 = .ok (.iload_n 3, 1) := dec_29 (gB drcX7_setSign_0 43 rfl rfl)
theorem dX7_setSign_44 : decode cX7_setSign 44 = .ok (.invokestatic 79, 3) := e_184 (x := 0) (y := 79) drcX7_setSign_0 44 rfl rfl
theorem dX7_setSign_47 : decode cX7_setSign 47 = .ok (.iastore, 1) := dec_79 (gB drcX7_setSign_0 47 rfl rfl)
theorem dX7_setSign_48 : decode cX7_setSign 48 = .ok (.invokestatic 67, 3) := e_184 (x := 0) (y := 67) drcX7_setSign_0 48 rfl rfl
theorem dX7_setSign_51 : decode cX7_setSign 51 = .ok (.invokevirtual 59, 3) := e_182 (x := 0) (y := 59) drcX7_setSign_0 51 rfl rfl
theorem dX7_setSign_54 : decode cX7_setSign 54 = .ok (.pop, 1) := dec_87 (gB drcX7_setSign_0 54 rfl rfl)
theorem dX7_setSign_55 : decode cX7_setSign 55 = .ok (.iload 4, 2) := e_21 (x := 4) drcX7_setSign_0 55 rfl rfl
theorem dX7_setSign_57 : decode cX7_setSign 57 = .ok (.iload_n 3, 1) := dec_29 (gB drcX7_setSign_0 57 rfl rfl)
theorem dX7_setSign_58 : decode cX7_setSign 58 = .ok (.invokestatic 79, 3) := e_184 (x := 0) (y := 79) drcX7_setSign_0 58 rfl rfl
theorem dX7_setSign_61 : decode cX7_setSign 61 = .ok (.if_icmp .eq 7, 3) := e_159 (x := 0) (y := 7) drcX7_setSign_0 61 rfl rfl
theorem dX7_setSign_64 : decode cX7_setSign 64 = .ok (.iconst 1, 1) := dec_4 (gB drcX7_setSign_1 0 rfl rfl)
theorem dX7_setSign_65 : decode cX7_setSign 65 = .ok (.goto 4, 3) := e_167 (x := 0) (y := 4) drcX7_setSign_1 1 rfl rfl
theorem dX7_setSign_68 : decode cX7_setSign 68 = .ok (.iconst 0, 1) := dec_3 (gB drcX7_setSign_1 4 rfl rfl)
theorem dX7_setSign_69 : decode cX7_setSign 69 = .ok (.invokestatic 79, 3) := e_184 (x := 0) (y := 79) drcX7_setSign_1 5 rfl rfl
theorem dX7_setSign_72 : decode cX7_setSign 72 = .ok (.ireturn, 1) := dec_172 (gB drcX7_setSign_1 8 rfl rfl)
def lkcX7_removeSign_0 : List UInt8 := [0x2a, 0x2a, 0x1b, 0x1c, 0xb6, 0x00, 0x53, 0x04, 0xb6, 0x00, 0x33, 0x99, 0x00, 0x05, 0x03, 0xac, 0x2a, 0xb4, 0x00, 0x09, 0x1b, 0x32, 0x1c, 0x2e, 0x3e, 0x2a, 0x1b, 0x2a, 0xb4, 0x00, 0x09, 0x1b, 0x32, 0x1c, 0x1c, 0x04, 0x60, 0x03, 0xbc, 0x0a, 0xb8, 0x00, 0x43, 0xb6, 0x00, 0x3b, 0x57, 0x1d, 0xac]
def tkcX7_removeSign_0 : List UInt8 := lkcX7_removeSign_0 ++ []
theorem drcX7_removeSign_0 : (cX7_removeSign).data.toList.drop 0 = lkcX7_removeSign_0 ++ [] := by decide +kernel
theorem dX7_removeSign_0 : decode cX7_removeSign 0 = .ok (.aload_n 0, 1) := dec_42 (gB drcX7_removeSign_0 0 rfl rfl)
theorem dX7_removeSign_1 : decode cX7_removeSign 1 = .ok (.aload_n 0, 1) := dec_42 (gB drcX7_removeSign_0 1 rfl rfl)
theorem dX7_removeSign_2 : decode cX7_removeSign 2 = .ok (.iload_n 1, 1) := dec_27 (gB drcX7_removeSign_0 2 rfl rfl)
theorem dX7_removeSign_3 : decode cX7_removeSign 3 = .ok (.iload_n 2, 1) := dec_28 (gB drcX7_removeSign_0 3 rfl rfl)
theorem dX7_removeSign_4 : decode cX7_removeSign 4 = .ok (.invokevirtual 83, 3) := e_182 (x := 0) (y := 83) drcX7_removeSign_0 4 rfl rfl
theorem dX7_removeSign_7 : decode cX7_removeSign 7 = .ok (.iconst 1, 1) := dec_4 (gB drcX7_removeSign_0 7 rfl rfl)
theorem dX7_removeSign_8 : decode cX7_removeSign 8 = .ok (.invokevirtual 51, 3) := e_182 (x := 0) (y := 51) drcX7_removeSign_0 8 rfl rfl
theorem dX7_removeSign_11 : decode cX7_removeSign 11 = .ok (.ifCond .eq 5, 3) := e_153 (x := 0) (y := 5) drcX7_removeSign_0 11 rfl rfl
theorem dX7_removeSign_14 : decode cX7_removeSign 14 = .ok (.iconst 0, 1) := dec_3 (gB drcX7_removeSign_0 14 rfl rfl)
theorem dX7_removeSign_15 : decode cX7_removeSign 15 = .ok (.ireturn, 1) := dec_172 (gB drcX7_removeSign_0 15 rfl rfl)
theorem dX7_removeSign_16 : decode cX7_removeSign 16 = .ok (.aload_n 0, 1) := dec_42 (gB drcX7_removeSign_0 16 rfl rfl)
theorem dX7_removeSign_17 : decode cX7_removeSign 17 = .ok (.getfield 9, 3) := e_180 (x := 0) (y := 9) drcX7_removeSign_0 17 rfl rfl
theorem dX7_removeSign_20 : decode cX7_removeSign 20 = .ok (.iload_n 1, 1) := dec_27 (gB drcX7_removeSign_0 20 rfl rfl)
theorem dX7_removeSign_21 : decode cX7_removeSign 21 = .ok (.aaload, 1) := dec_50 (gB drcX7_removeSign_0 21 rfl rfl)
theorem dX7_removeSign_22 : decode cX7_removeSign 22 = .ok (.iload_n 2, 1) := dec_28 (gB drcX7_removeSign_0 22 rfl rfl)
theorem dX7_removeSign_23 : decode cX7_removeSign 23 = .ok (.iaload, 1) := dec_46 (gB drcX7_removeSign_0 23 rfl rfl)
theorem dX7_removeSign_24 : decode cX7_removeSign 24 = .ok (.istore_n 3, 1) := dec_62 (gB drcX7_removeSign_0 24 rfl rfl)
theorem dX7_removeSign_25 : decode cX7_removeSign 25 = .ok (.aload_n 0, 1) := dec_42 (gB drcX7_removeSign_0 25 rfl rfl)
theorem dX7_removeSign_26 : decode cX7_removeSign 26 = .ok (.iload_n 1, 1) := dec_27 (gB drcX7_removeSign_0 26 rfl rfl)
theorem dX7_removeSign_27 : decode cX7_removeSign 27 = .ok (.aload_n 0, 1) := dec_42 (gB drcX7_removeSign_0 27 rfl rfl)
theorem dX7_removeSign_28 : decode cX7_removeSign 28 = .ok (.getfield 9, 3) := e_180 (x := 0) (y := 9) drcX7_removeSign_0 28 rfl rfl
theorem dX7_removeSign_31 : decode cX7_removeSign 31 = .ok (.iload_n 1, 1) := dec_27 (gB drcX7_removeSign_0 31 rfl rfl)
theorem dX7_removeSign_32 : decode cX7_removeSign 32 = .ok (.aaload, 1) := dec_50 (gB drcX7_removeSign_0 32 rfl rfl)
theorem dX7_removeSign_33 : decode cX7_removeSign 33 = .ok (.iload_n 2, 1) := dec_28 (gB drcX7_removeSign_0 33 rfl rfl)
theorem dX7_removeSign_34 : decode cX7_removeSign 34 = .ok (.iload_n 2, 1) := dec_28 (gB drcX7_removeSign_0 34 rfl rfl)
theorem dX7_removeSign_35 : decode cX7_removeSign 35 = .ok (.iconst 1, 1) := dec_4 (gB drcX7_removeSign_0 35 rfl rfl)
theorem dX7_removeSign_36 : decode cX7_removeSign 36 = .ok (.iadd, 1) := dec_96 (gB drcX7_removeSign_0 36 rfl rfl)
theorem dX7_removeSign_37 : decode cX7_removeSign 37 = .ok (.iconst 0, 1) := dec_3 (gB drcX7_removeSign_0 37 rfl rfl)
theorem dX7_removeSign_38 : decode cX7_removeSign 38 = .ok (.newarray .int, 2) := by decide +kernel
theorem dX7_removeSign_40 : decode cX7_removeSign 40 = .ok (.invokestatic 67, 3) := e_184 (x := 0) (y := 67) drcX7_removeSign_0 40 rfl rfl
theorem dX7_removeSign_43 : decode cX7_removeSign 43 = .ok (.invokevirtual 59, 3) := e_182 (x := 0) (y := 59) drcX7_removeSign_0 43 rfl rfl
theorem dX7_removeSign_46 : decode cX7_removeSign 46 = .ok (.pop, 1) := dec_87 (gB drcX7_removeSign_0 46 rfl rfl)
theorem dX7_removeSign_47 : decode cX7_removeSign 47 = .ok (.iload_n 3, 1) := dec_29 (gB drcX7_removeSign_0 47 rfl rfl)
theorem dX7_removeSign_48 : decode cX7_removeSign 48 = .ok (.ireturn, 1) := dec_172 (gB drcX7_removeSign_0 48 rfl rfl)
def lkcX7_remove_0 : List UInt8 := [0x2a, 0x2a, 0x1b, 0x1c, 0x1d, 0xb6, 0x00, 0x56, 0x04, 0xb6, 0x00, 0x33, 0x99, 0x00, 0x05, 0x03, 0xac, 0x2a, 0xb4, 0x00, 0x09, 0x1b, 0x32, 0xb8, 0x00, 0x29, 0x36, 0x04, 0x2a, 0x1b, 0x2a, 0xb4, 0x00, 0x09, 0x1b, 0x32, 0x1c, 0x1d, 0x03, 0xbc, 0x0a, 0xb8, 0x00, 0x43, 0xb6, 0x00, 0x3b, 0x57, 0x15, 0x04, 0x2a, 0xb4, 0x00, 0x09, 0x1b, 0x32, 0xb8, 0x00, 0x29, 0x64, 0xac]
def tkcX7_remove_0 : List UInt8 := lkcX7_remove_0 ++ []
theorem drcX7_remove_0 : (cX7_remove).data.toList.drop 0 = lkcX7_remove_0 ++ [] := by decide +kernel
theorem dX7_remove_0 : decode cX7_remove 0 = .ok (.aload_n 0, 1) := dec_42 (gB drcX7_remove_0 0 rfl rfl)
theorem dX7_remove_1 : decode cX7_remove 1 = .ok (.aload_n 0, 1) := dec_42 (gB drcX7_remove_0 1 rfl rfl)
theorem dX7_remove_2 : decode cX7_remove 2 = .ok (.iload_n 1, 1) := dec_27 (gB drcX7_remove_0 2 rfl rfl)
theorem dX7_remove_3 : decode cX7_remove 3 = .ok (.iload_n 2, 1) := dec_28 (gB drcX7_remove_0 3 rfl rfl)
theorem dX7_remove_4 : decode cX7_remove 4 = .ok (.iload_n 3, 1) := dec_29 (gB drcX7_remove_0 4 rfl rfl)
theorem dX7_remove_5 : decode cX7_remove 5 = .ok (.invokevirtual 86, 3) := e_182 (x := 0) (y := 86) drcX7_remove_0 5 rfl rfl
theorem dX7_remove_8 : decode cX7_remove 8 = .ok (.iconst 1, 1) := dec_4 (gB drcX7_remove_0 8 rfl rfl)
theorem dX7_remove_9 : decode cX7_remove 9 = .ok (.invokevirtual 51, 3) := e_182 (x := 0) (y := 51) drcX7_remove_0 9 rfl rfl
theorem dX7_remove_12 : decode cX7_remove 12 = .ok (.ifCond .eq 5, 3) := e_153 (x := 0) (y := 5) drcX7_remove_0 12 rfl rfl
theorem dX7_remove_15 : decode cX7_remove 15 = .ok (.iconst 0, 1) := dec_3 (gB drcX7_remove_0 15 rfl rfl)
theorem dX7_remove_16 : decode cX7_remove 16 = .ok (.ireturn, 1) := dec_172 (gB drcX7_remove_0 16 rfl rfl)
theorem dX7_remove_17 : decode cX7_remove 17 = .ok (.aload_n 0, 1) := dec_42 (gB drcX7_remove_0 17 rfl rfl)
theorem dX7_remove_18 : decode cX7_remove 18 = .ok (.getfield 9, 3) := e_180 (x := 0) (y := 9) drcX7_remove_0 18 rfl rfl
theorem dX7_remove_21 : decode cX7_remove 21 = .ok (.iload_n 1, 1) := dec_27 (gB drcX7_remove_0 21 rfl rfl)
theorem dX7_remove_22 : decode cX7_remove 22 = .ok (.aaload, 1) := dec_50 (gB drcX7_remove_0 22 rfl rfl)
theorem dX7_remove_23 : decode cX7_remove 23 = .ok (.invokestatic 41, 3) := e_184 (x := 0) (y := 41) drcX7_remove_0 23 rfl rfl
theorem dX7_remove_26 : decode cX7_remove 26 = .ok (.istore 4, 2) := e_54 (x := 4) drcX7_remove_0 26 rfl rfl
theorem dX7_remove_28 : decode cX7_remove 28 = .ok (.aload_n 0, 1) := dec_42 (gB drcX7_remove_0 28 rfl rfl)
theorem dX7_remove_29 : decode cX7_remove 29 = .ok (.iload_n 1, 1) := dec_27 (gB drcX7_remove_0 29 rfl rfl)
theorem dX7_remove_30 : decode cX7_remove 30 = .ok (.aload_n 0, 1) := dec_42 (gB drcX7_remove_0 30 rfl rfl)
theorem dX7_remove_31 : decode cX7_remove 31 = .ok (.getfield 9, 3) := e_180 (x := 0) (y := 9) drcX7_remove_0 31 rfl rfl
theorem dX7_remove_34 : decode cX7_remove 34 = .ok (.iload_n 1, 1) := dec_27 (gB drcX7_remove_0 34 rfl rfl)
theorem dX7_remove_35 : decode cX7_remove 35 = .ok (.aaload, 1) := dec_50 (gB drcX7_remove_0 35 rfl rfl)
theorem dX7_remove_36 : decode cX7_remove 36 = .ok (.iload_n 2, 1) := dec_28 (gB drcX7_remove_0 36 rfl rfl)
theorem dX7_remove_37 : decode cX7_remove 37 = .ok (.iload_n 3, 1) := dec_29 (gB drcX7_remove_0 37 rfl rfl)
theorem dX7_remove_38 : decode cX7_remove 38 = .ok (.iconst 0, 1) := dec_3 (gB drcX7_remove_0 38 rfl rfl)
theorem dX7_remove_39 : decode cX7_remove 39 = .ok (.newarray .int, 2) := by decide +kernel
theorem dX7_remove_41 : decode cX7_remove 41 = .ok (.invokestatic 67, 3) := e_184 (x := 0) (y := 67) drcX7_remove_0 41 rfl rfl
theorem dX7_remove_44 : decode cX7_remove 44 = .ok (.invokevirtual 59, 3) := e_182 (x := 0) (y := 59) drcX7_remove_0 44 rfl rfl
theorem dX7_remove_47 : decode cX7_remove 47 = .ok (.pop, 1) := dec_87 (gB drcX7_remove_0 47 rfl rfl)
theorem dX7_remove_48 : decode cX7_remove 48 = .ok (.iload 4, 2) := e_21 (x := 4) drcX7_remove_0 48 rfl rfl
theorem dX7_remove_50 : decode cX7_remove 50 = .ok (.aload_n 0, 1) := dec_42 (gB drcX7_remove_0 50 rfl rfl)
theorem dX7_remove_51 : decode cX7_remove 51 = .ok (.getfield 9, 3) := e_180 (x := 0) (y := 9) drcX7_remove_0 51 rfl rfl
theorem dX7_remove_54 : decode cX7_remove 54 = .ok (.iload_n 1, 1) := dec_27 (gB drcX7_remove_0 54 rfl rfl)
theorem dX7_remove_55 : decode cX7_remove 55 = .ok (.aaload, 1) := dec_50 (gB drcX7_remove_0 55 rfl rfl)
theorem dX7_remove_56 : decode cX7_remove 56 = .ok (.invokestatic 41, 3) := e_184 (x := 0) (y := 41) drcX7_remove_0 56 rfl rfl
theorem dX7_remove_59 : decode cX7_remove 59 = .ok (.isub, 1) := dec_100 (gB drcX7_remove_0 59 rfl rfl)
theorem dX7_remove_60 : decode cX7_remove 60 = .ok (.ireturn, 1) := dec_172 (gB drcX7_remove_0 60 rfl rfl)
def lkcX7_replace_0 : List UInt8 := [0x2a, 0x2a, 0x1b, 0x1c, 0x1d, 0xb6, 0x00, 0x56, 0x9a, 0x00, 0x0b, 0x15, 0x04, 0xb8, 0x00, 0x21, 0x99, 0x00, 0x07, 0x04, 0xa7, 0x00, 0x04, 0x03, 0x04, 0xb6, 0x00, 0x33, 0x99, 0x00, 0x05, 0x03, 0xac, 0x2a, 0x1b, 0x1c, 0x1d, 0x2a, 0xb4, 0x00, 0x09, 0x15, 0x04, 0x32, 0xb6, 0x00, 0x47, 0xac]
def tkcX7_replace_0 : List UInt8 := lkcX7_replace_0 ++ []
theorem drcX7_replace_0 : (cX7_replace).data.toList.drop 0 = lkcX7_replace_0 ++ [] := by decide +kernel
theorem dX7_replace_0 : decode cX7_replace 0 = .ok (.aload_n 0, 1) := dec_42 (gB drcX7_replace_0 0 rfl rfl)
theorem dX7_replace_1 : decode cX7_replace 1 = .ok (.aload_n 0, 1) := dec_42 (gB drcX7_replace_0 1 rfl rfl)
theorem dX7_replace_2 : decode cX7_replace 2 = .ok (.iload_n 1, 1) := dec_27 (gB drcX7_replace_0 2 rfl rfl)
theorem dX7_replace_3 : decode cX7_replace 3 = .ok (.iload_n 2, 1) := dec_28 (gB drcX7_replace_0 3 rfl rfl)
theorem dX7_replace_4 : decode cX7_replace 4 = .ok (.iload_n 3, 1) := dec_29 (gB drcX7_replace_0 4 rfl rfl)
theorem dX7_replace_5 : decode cX7_replace 5 = .ok (.invokevirtual 86, 3) := e_182 (x := 0) (y := 86) drcX7_replace_0 5 rfl rfl
theorem dX7_replace_8 : decode cX7_replace 8 = .ok (.ifCond .ne 11, 3) := e_154 (x := 0) (y := 11) drcX7_replace_0 8 rfl rfl
theorem dX7_replace_11 : decode cX7_replace 11 = .ok (.iload 4, 2) := e_21 (x := 4) drcX7_replace_0 11 rfl rfl
theorem dX7_replace_13 : decode cX7_replace 13 = .ok (.invokestatic 33, 3) := e_184 (x := 0) (y := 33) drcX7_replace_0 13 rfl rfl
theorem dX7_replace_16 : decode cX7_replace 16 = .ok (.ifCond .eq 7, 3) := e_153 (x := 0) (y := 7) drcX7_replace_0 16 rfl rfl
theorem dX7_replace_19 : decode cX7_replace 19 = .ok (.iconst 1, 1) := dec_4 (gB drcX7_replace_0 19 rfl rfl)
theorem dX7_replace_20 : decode cX7_replace 20 = .ok (.goto 4, 3) := e_167 (x := 0) (y := 4) drcX7_replace_0 20 rfl rfl
theorem dX7_replace_23 : decode cX7_replace 23 = .ok (.iconst 0, 1) := dec_3 (gB drcX7_replace_0 23 rfl rfl)
theorem dX7_replace_24 : decode cX7_replace 24 = .ok (.iconst 1, 1) := dec_4 (gB drcX7_replace_0 24 rfl rfl)
theorem dX7_replace_25 : decode cX7_replace 25 = .ok (.invokevirtual 51, 3) := e_182 (x := 0) (y := 51) drcX7_replace_0 25 rfl rfl
theorem dX7_replace_28 : decode cX7_replace 28 = .ok (.ifCond .eq 5, 3) := e_153 (x := 0) (y := 5) drcX7_replace_0 28 rfl rfl
theorem dX7_replace_31 : decode cX7_replace 31 = .ok (.iconst 0, 1) := dec_3 (gB drcX7_replace_0 31 rfl rfl)
theorem dX7_replace_32 : decode cX7_replace 32 = .ok (.ireturn, 1) := dec_172 (gB drcX7_replace_0 32 rfl rfl)
theorem dX7_replace_33 : decode cX7_replace 33 = .ok (.aload_n 0, 1) := dec_42 (gB drcX7_replace_0 33 rfl rfl)
theorem dX7_replace_34 : decode cX7_replace 34 = .ok (.iload_n 1, 1) := dec_27 (gB drcX7_replace_0 34 rfl rfl)
theorem dX7_replace_35 : decode cX7_replace 35 = .ok (.iload_n 2, 1) := dec_28 (gB drcX7_replace_0 35 rfl rfl)
theorem dX7_replace_36 : decode cX7_replace 36 = .ok (.iload_n 3, 1) := dec_29 (gB drcX7_replace_0 36 rfl rfl)
theorem dX7_replace_37 : decode cX7_replace 37 = .ok (.aload_n 0, 1) := dec_42 (gB drcX7_replace_0 37 rfl rfl)
theorem dX7_replace_38 : decode cX7_replace 38 = .ok (.getfield 9, 3) := e_180 (x := 0) (y := 9) drcX7_replace_0 38 rfl rfl
theorem dX7_replace_41 : decode cX7_replace 41 = .ok (.iload 4, 2) := e_21 (x := 4) drcX7_replace_0 41 rfl rfl
theorem dX7_replace_43 : decode cX7_replace 43 = .ok (.aaload, 1) := dec_50 (gB drcX7_replace_0 43 rfl rfl)
theorem dX7_replace_44 : decode cX7_replace 44 = .ok (.invokevirtual 71, 3) := e_182 (x := 0) (y := 71) drcX7_replace_0 44 rfl rfl
theorem dX7_replace_47 : decode cX7_replace 47 = .ok (.ireturn, 1) := dec_172 (gB drcX7_replace_0 47 rfl rfl)
def lkcX7_cutTo_0 : List UInt8 := [0x2a, 0x1b, 0xb8, 0x00, 0x21, 0x04, 0xb6, 0x00, 0x33, 0x9a, 0x00, 0x1a, 0x2a, 0x1c, 0x03, 0x10, 0x40, 0xb8, 0x00, 0x1d, 0x9a, 0x00, 0x07, 0x04, 0xa7, 0x00, 0x04, 0x03, 0x05, 0xb6, 0x00, 0x19, 0x99, 0x00, 0x05, 0x03, 0xac, 0x2a, 0xb4, 0x00, 0x09, 0x1b, 0x32, 0x4e, 0x1c, 0xbc, 0x0a, 0x3a, 0x04, 0x03, 0x36, 0x05, 0x15, 0x05, 0x1c, 0xa2, 0x00, 0x19, 0x15, 0x05, 0x2d, 0xbe, 0xa2, 0x00]
def lkcX7_cutTo_1 : List UInt8 := [0x12, 0x19, 0x04, 0x15, 0x05, 0x2d, 0x15, 0x05, 0x2e, 0x4f, 0x84, 0x05, 0x01, 0xa7, 0xff, 0xe7, 0x2a, 0x1b, 0x19, 0x04, 0xb6, 0x00, 0x3b, 0x57, 0x2d, 0xbe, 0xac]
def tkcX7_cutTo_1 : List UInt8 := lkcX7_cutTo_1 ++ []
def tkcX7_cutTo_0 : List UInt8 := lkcX7_cutTo_0 ++ tkcX7_cutTo_1
theorem drcX7_cutTo_0 : (cX7_cutTo).data.toList.drop 0 = lkcX7_cutTo_0 ++ tkcX7_cutTo_1 := by decide +kernel
theorem drcX7_cutTo_1 : (cX7_cutTo).data.toList.drop 64 = lkcX7_cutTo_1 ++ [] := dr_step drcX7_cutTo_0 rfl
theorem dX7_cutTo_0 : decode cX7_cutTo 0 = .ok (.aload_n 0, 1) := dec_42 (gB drcX7_cutTo_0 0 rfl rfl)
theorem dX7_cutTo_1 : decode cX7_cutTo 1 = .ok (.iload_n 1, 1) := dec_27 (gB drcX7_cutTo_0 1 rfl rfl)
theorem dX7_cutTo_2 : decode cX7_cutTo 2 = .ok (.invokestatic 33, 3) := e_184 (x := 0) (y := 33) drcX7_cutTo_0 2 rfl rfl
theorem dX7_cutTo_5 : decode cX7_cutTo 5 = .ok (.iconst 1, 1) := dec_4 (gB drcX7_cutTo_0 5 rfl rfl)
theorem dX7_cutTo_6 : decode cX7_cutTo 6 = .ok (.invokevirtual 51, 3) := e_182 (x := 0) (y := 51) drcX7_cutTo_0 6 rfl rfl
theorem dX7_cutTo_9 : decode cX7_cutTo 9 = .ok (.ifCond .ne 26, 3) := e_154 (x := 0) (y := 26) drcX7_cutTo_0 9 rfl rfl
theorem dX7_cutTo_12 : decode cX7_cutTo 12 = .ok (.aload_n 0, 1) := dec_42 (gB drcX7_cutTo_0 12 rfl rfl)
theorem dX7_cutTo_13 : decode cX7_cutTo 13 = .ok (.iload_n 2, 1) := dec_28 (gB drcX7_cutTo_0 13 rfl rfl)
theorem dX7_cutTo_14 : decode cX7_cutTo 14 = .ok (.iconst 0, 1) := dec_3 (gB drcX7_cutTo_0 14 rfl rfl)
theorem dX7_cutTo_15 : decode cX7_cutTo 15 = .ok (.bipush 64, 2) := e_16 (x := 64) drcX7_cutTo_0 15 rfl rfl
theorem dX7_cutTo_17 : decode cX7_cutTo 17 = .ok (.invokestatic 29, 3) := e_184 (x := 0) (y := 29) drcX7_cutTo_0 17 rfl rfl
theorem dX7_cutTo_20 : decode cX7_cutTo 20 = .ok (.ifCond .ne 7, 3) := e_154 (x := 0) (y := 7) drcX7_cutTo_0 20 rfl rfl
theorem dX7_cutTo_23 : decode cX7_cutTo 23 = .ok (.iconst 1, 1) := dec_4 (gB drcX7_cutTo_0 23 rfl rfl)
theorem dX7_cutTo_24 : decode cX7_cutTo 24 = .ok (.goto 4, 3) := e_167 (x := 0) (y := 4) drcX7_cutTo_0 24 rfl rfl
theorem dX7_cutTo_27 : decode cX7_cutTo 27 = .ok (.iconst 0, 1) := dec_3 (gB drcX7_cutTo_0 27 rfl rfl)
theorem dX7_cutTo_28 : decode cX7_cutTo 28 = .ok (.iconst 2, 1) := dec_5 (gB drcX7_cutTo_0 28 rfl rfl)
theorem dX7_cutTo_29 : decode cX7_cutTo 29 = .ok (.invokevirtual 25, 3) := e_182 (x := 0) (y := 25) drcX7_cutTo_0 29 rfl rfl
theorem dX7_cutTo_32 : decode cX7_cutTo 32 = .ok (.ifCond .eq 5, 3) := e_153 (x := 0) (y := 5) drcX7_cutTo_0 32 rfl rfl
theorem dX7_cutTo_35 : decode cX7_cutTo 35 = .ok (.iconst 0, 1) := dec_3 (gB drcX7_cutTo_0 35 rfl rfl)
theorem dX7_cutTo_36 : decode cX7_cutTo 36 = .ok (.ireturn, 1) := dec_172 (gB drcX7_cutTo_0 36 rfl rfl)
theorem dX7_cutTo_37 : decode cX7_cutTo 37 = .ok (.aload_n 0, 1) := dec_42 (gB drcX7_cutTo_0 37 rfl rfl)
theorem dX7_cutTo_38 : decode cX7_cutTo 38 = .ok (.getfield 9, 3) := e_180 (x := 0) (y := 9) drcX7_cutTo_0 38 rfl rfl
theorem dX7_cutTo_41 : decode cX7_cutTo 41 = .ok (.iload_n 1, 1) := dec_27 (gB drcX7_cutTo_0 41 rfl rfl)
theorem dX7_cutTo_42 : decode cX7_cutTo 42 = .ok (.aaload, 1) := dec_50 (gB drcX7_cutTo_0 42 rfl rfl)
theorem dX7_cutTo_43 : decode cX7_cutTo 43 = .ok (.astore_n 3, 1) := dec_78 (gB drcX7_cutTo_0 43 rfl rfl)
theorem dX7_cutTo_44 : decode cX7_cutTo 44 = .ok (.iload_n 2, 1) := dec_28 (gB drcX7_cutTo_0 44 rfl rfl)
theorem dX7_cutTo_45 : decode cX7_cutTo 45 = .ok (.newarray .int, 2) := by decide +kernel
theorem dX7_cutTo_47 : decode cX7_cutTo 47 = .ok (.astore 4, 2) := e_58 (x := 4) drcX7_cutTo_0 47 rfl rfl
theorem dX7_cutTo_49 : decode cX7_cutTo 49 = .ok (.iconst 0, 1) := dec_3 (gB drcX7_cutTo_0 49 rfl rfl)
theorem dX7_cutTo_50 : decode cX7_cutTo 50 = .ok (.istore 5, 2) := e_54 (x := 5) drcX7_cutTo_0 50 rfl rfl
theorem dX7_cutTo_52 : decode cX7_cutTo 52 = .ok (.iload 5, 2) := e_21 (x := 5) drcX7_cutTo_0 52 rfl rfl
theorem dX7_cutTo_54 : decode cX7_cutTo 54 = .ok (.iload_n 2, 1) := dec_28 (gB drcX7_cutTo_0 54 rfl rfl)
theorem dX7_cutTo_55 : decode cX7_cutTo 55 = .ok (.if_icmp .ge 25, 3) := e_162 (x := 0) (y := 25) drcX7_cutTo_0 55 rfl rfl
theorem dX7_cutTo_58 : decode cX7_cutTo 58 = .ok (.iload 5, 2) := e_21 (x := 5) drcX7_cutTo_0 58 rfl rfl
theorem dX7_cutTo_60 : decode cX7_cutTo 60 = .ok (.aload_n 3, 1) := dec_45 (gB drcX7_cutTo_0 60 rfl rfl)
theorem dX7_cutTo_61 : decode cX7_cutTo 61 = .ok (.arraylength, 1) := dec_190 (gB drcX7_cutTo_0 61 rfl rfl)
theorem dX7_cutTo_62 : decode cX7_cutTo 62 = .ok (.if_icmp .ge 18, 3) := dec_162 (a := 0) (b := 18) (gB drcX7_cutTo_0 62 rfl rfl) (gB drcX7_cutTo_0 63 rfl rfl) (gB drcX7_cutTo_1 0 rfl rfl)
theorem dX7_cutTo_65 : decode cX7_cutTo 65 = .ok (.aload 4, 2) := e_25 (x := 4) drcX7_cutTo_1 1 rfl rfl
theorem dX7_cutTo_67 : decode cX7_cutTo 67 = .ok (.iload 5, 2) := e_21 (x := 5) drcX7_cutTo_1 3 rfl rfl
theorem dX7_cutTo_69 : decode cX7_cutTo 69 = .ok (.aload_n 3, 1) := dec_45 (gB drcX7_cutTo_1 5 rfl rfl)
theorem dX7_cutTo_70 : decode cX7_cutTo 70 = .ok (.iload 5, 2) := e_21 (x := 5) drcX7_cutTo_1 6 rfl rfl
theorem dX7_cutTo_72 : decode cX7_cutTo 72 = .ok (.iaload, 1) := dec_46 (gB drcX7_cutTo_1 8 rfl rfl)
theorem dX7_cutTo_73 : decode cX7_cutTo 73 = .ok (.iastore, 1) := dec_79 (gB drcX7_cutTo_1 9 rfl rfl)
theorem dX7_cutTo_74 : decode cX7_cutTo 74 = .ok (.iinc 5 1, 3) := e_132 (x := 5) (y := 1) drcX7_cutTo_1 10 rfl rfl
theorem dX7_cutTo_77 : decode cX7_cutTo 77 = .ok (.goto (-25), 3) := e_167 (x := 255) (y := 231) drcX7_cutTo_1 13 rfl rfl
theorem dX7_cutTo_80 : decode cX7_cutTo 80 = .ok (.aload_n 0, 1) := dec_42 (gB drcX7_cutTo_1 16 rfl rfl)
theorem dX7_cutTo_81 : decode cX7_cutTo 81 = .ok (.iload_n 1, 1) := dec_27 (gB drcX7_cutTo_1 17 rfl rfl)
theorem dX7_cutTo_82 : decode cX7_cutTo 82 = .ok (.aload 4, 2) := e_25 (x := 4) drcX7_cutTo_1 18 rfl rfl
theorem dX7_cutTo_84 : decode cX7_cutTo 84 = .ok (.invokevirtual 59, 3) := e_182 (x := 0) (y := 59) drcX7_cutTo_1 20 rfl rfl
theorem dX7_cutTo_87 : decode cX7_cutTo 87 = .ok (.pop, 1) := dec_87 (gB drcX7_cutTo_1 23 rfl rfl)
theorem dX7_cutTo_88 : decode cX7_cutTo 88 = .ok (.aload_n 3, 1) := dec_45 (gB drcX7_cutTo_1 24 rfl rfl)
theorem dX7_cutTo_89 : decode cX7_cutTo 89 = .ok (.arraylength, 1) := dec_190 (gB drcX7_cutTo_1 25 rfl rfl)
theorem dX7_cutTo_90 : decode cX7_cutTo 90 = .ok (.ireturn, 1) := dec_172 (gB drcX7_cutTo_1 26 rfl rfl)
def lkcX7_becomes_0 : List UInt8 := [0x2a, 0xb4, 0x00, 0x09, 0x1b, 0x32, 0x2c, 0xb8, 0x00, 0x59, 0x9a, 0x00, 0x07, 0x04, 0xa7, 0x00, 0x04, 0x03, 0xb8, 0x00, 0x4f, 0x3e, 0x2a, 0x1b, 0x2c, 0xb6, 0x00, 0x3b, 0x57, 0x1d, 0xac]
def tkcX7_becomes_0 : List UInt8 := lkcX7_becomes_0 ++ []
theorem drcX7_becomes_0 : (cX7_becomes).data.toList.drop 0 = lkcX7_becomes_0 ++ [] := by decide +kernel
theorem dX7_becomes_0 : decode cX7_becomes 0 = .ok (.aload_n 0, 1) := dec_42 (gB drcX7_becomes_0 0 rfl rfl)
theorem dX7_becomes_1 : decode cX7_becomes 1 = .ok (.getfield 9, 3) := e_180 (x := 0) (y := 9) drcX7_becomes_0 1 rfl rfl
theorem dX7_becomes_4 : decode cX7_becomes 4 = .ok (.iload_n 1, 1) := dec_27 (gB drcX7_becomes_0 4 rfl rfl)
theorem dX7_becomes_5 : decode cX7_becomes 5 = .ok (.aaload, 1) := dec_50 (gB drcX7_becomes_0 5 rfl rfl)
theorem dX7_becomes_6 : decode cX7_becomes 6 = .ok (.aload_n 2, 1) := dec_44 (gB drcX7_becomes_0 6 rfl rfl)
theorem dX7_becomes_7 : decode cX7_becomes 7 = .ok (.invokestatic 89, 3) := e_184 (x := 0) (y := 89) drcX7_becomes_0 7 rfl rfl
theorem dX7_becomes_10 : decode cX7_becomes 10 = .ok (.ifCond .ne 7, 3) := e_154 (x := 0) (y := 7) drcX7_becomes_0 10 rfl rfl
theorem dX7_becomes_13 : decode cX7_becomes 13 = .ok (.iconst 1, 1) := dec_4 (gB drcX7_becomes_0 13 rfl rfl)
theorem dX7_becomes_14 : decode cX7_becomes 14 = .ok (.goto 4, 3) := e_167 (x := 0) (y := 4) drcX7_becomes_0 14 rfl rfl
theorem dX7_becomes_17 : decode cX7_becomes 17 = .ok (.iconst 0, 1) := dec_3 (gB drcX7_becomes_0 17 rfl rfl)
theorem dX7_becomes_18 : decode cX7_becomes 18 = .ok (.invokestatic 79, 3) := e_184 (x := 0) (y := 79) drcX7_becomes_0 18 rfl rfl
theorem dX7_becomes_21 : decode cX7_becomes 21 = .ok (.istore_n 3, 1) := dec_62 (gB drcX7_becomes_0 21 rfl rfl)
theorem dX7_becomes_22 : decode cX7_becomes 22 = .ok (.aload_n 0, 1) := dec_42 (gB drcX7_becomes_0 22 rfl rfl)
theorem dX7_becomes_23 : decode cX7_becomes 23 = .ok (.iload_n 1, 1) := dec_27 (gB drcX7_becomes_0 23 rfl rfl)
theorem dX7_becomes_24 : decode cX7_becomes 24 = .ok (.aload_n 2, 1) := dec_44 (gB drcX7_becomes_0 24 rfl rfl)
theorem dX7_becomes_25 : decode cX7_becomes 25 = .ok (.invokevirtual 59, 3) := e_182 (x := 0) (y := 59) drcX7_becomes_0 25 rfl rfl
theorem dX7_becomes_28 : decode cX7_becomes 28 = .ok (.pop, 1) := dec_87 (gB drcX7_becomes_0 28 rfl rfl)
theorem dX7_becomes_29 : decode cX7_becomes 29 = .ok (.iload_n 3, 1) := dec_29 (gB drcX7_becomes_0 29 rfl rfl)
theorem dX7_becomes_30 : decode cX7_becomes 30 = .ok (.ireturn, 1) := dec_172 (gB drcX7_becomes_0 30 rfl rfl)
def lkcX7_turn_0 : List UInt8 := [0x2a, 0x1b, 0xb8, 0x00, 0x21, 0x04, 0xb6, 0x00, 0x33, 0x99, 0x00, 0x05, 0x03, 0xac, 0x2a, 0x1b, 0x2a, 0xb4, 0x00, 0x09, 0x1b, 0x32, 0xb8, 0x00, 0x5d, 0xb6, 0x00, 0x61, 0xac]
def tkcX7_turn_0 : List UInt8 := lkcX7_turn_0 ++ []
theorem drcX7_turn_0 : (cX7_turn).data.toList.drop 0 = lkcX7_turn_0 ++ [] := by decide +kernel
theorem dX7_turn_0 : decode cX7_turn 0 = .ok (.aload_n 0, 1) := dec_42 (gB drcX7_turn_0 0 rfl rfl)
theorem dX7_turn_1 : decode cX7_turn 1 = .ok (.iload_n 1, 1) := dec_27 (gB drcX7_turn_0 1 rfl rfl)
theorem dX7_turn_2 : decode cX7_turn 2 = .ok (.invokestatic 33, 3) := e_184 (x := 0) (y := 33) drcX7_turn_0 2 rfl rfl
theorem dX7_turn_5 : decode cX7_turn 5 = .ok (.iconst 1, 1) := dec_4 (gB drcX7_turn_0 5 rfl rfl)
theorem dX7_turn_6 : decode cX7_turn 6 = .ok (.invokevirtual 51, 3) := e_182 (x := 0) (y := 51) drcX7_turn_0 6 rfl rfl
theorem dX7_turn_9 : decode cX7_turn 9 = .ok (.ifCond .eq 5, 3) := e_153 (x := 0) (y := 5) drcX7_turn_0 9 rfl rfl
theorem dX7_turn_12 : decode cX7_turn 12 = .ok (.iconst 0, 1) := dec_3 (gB drcX7_turn_0 12 rfl rfl)
theorem dX7_turn_13 : decode cX7_turn 13 = .ok (.ireturn, 1) := dec_172 (gB drcX7_turn_0 13 rfl rfl)
theorem dX7_turn_14 : decode cX7_turn 14 = .ok (.aload_n 0, 1) := dec_42 (gB drcX7_turn_0 14 rfl rfl)
theorem dX7_turn_15 : decode cX7_turn 15 = .ok (.iload_n 1, 1) := dec_27 (gB drcX7_turn_0 15 rfl rfl)
theorem dX7_turn_16 : decode cX7_turn 16 = .ok (.aload_n 0, 1) := dec_42 (gB drcX7_turn_0 16 rfl rfl)
theorem dX7_turn_17 : decode cX7_turn 17 = .ok (.getfield 9, 3) := e_180 (x := 0) (y := 9) drcX7_turn_0 17 rfl rfl
theorem dX7_turn_20 : decode cX7_turn 20 = .ok (.iload_n 1, 1) := dec_27 (gB drcX7_turn_0 20 rfl rfl)
theorem dX7_turn_21 : decode cX7_turn 21 = .ok (.aaload, 1) := dec_50 (gB drcX7_turn_0 21 rfl rfl)
theorem dX7_turn_22 : decode cX7_turn 22 = .ok (.invokestatic 93, 3) := e_184 (x := 0) (y := 93) drcX7_turn_0 22 rfl rfl
theorem dX7_turn_25 : decode cX7_turn 25 = .ok (.invokevirtual 97, 3) := e_182 (x := 0) (y := 97) drcX7_turn_0 25 rfl rfl
theorem dX7_turn_28 : decode cX7_turn 28 = .ok (.ireturn, 1) := dec_172 (gB drcX7_turn_0 28 rfl rfl)
def lkcX7_exchange_0 : List UInt8 := [0x2a, 0x1b, 0xb8, 0x00, 0x21, 0x04, 0xb6, 0x00, 0x33, 0x99, 0x00, 0x05, 0x03, 0xac, 0x2a, 0x1b, 0x2a, 0xb4, 0x00, 0x09, 0x1b, 0x32, 0x04, 0xbc, 0x0a, 0x59, 0x03, 0x04, 0x4f, 0x04, 0xbc, 0x0a, 0x59, 0x03, 0x03, 0x4f, 0xb8, 0x00, 0x64, 0xb6, 0x00, 0x3b, 0x57, 0x2a, 0xb4, 0x00, 0x09, 0x1b, 0x32, 0xb8, 0x00, 0x29, 0xac]
def tkcX7_exchange_0 : List UInt8 := lkcX7_exchange_0 ++ []
theorem drcX7_exchange_0 : (cX7_exchange).data.toList.drop 0 = lkcX7_exchange_0 ++ [] := by decide +kernel
theorem dX7_exchange_0 : decode cX7_exchange 0 = .ok (.aload_n 0, 1) := dec_42 (gB drcX7_exchange_0 0 rfl rfl)
theorem dX7_exchange_1 : decode cX7_exchange 1 = .ok (.iload_n 1, 1) := dec_27 (gB drcX7_exchange_0 1 rfl rfl)
theorem dX7_exchange_2 : decode cX7_exchange 2 = .ok (.invokestatic 33, 3) := e_184 (x := 0) (y := 33) drcX7_exchange_0 2 rfl rfl
theorem dX7_exchange_5 : decode cX7_exchange 5 = .ok (.iconst 1, 1) := dec_4 (gB drcX7_exchange_0 5 rfl rfl)
theorem dX7_exchange_6 : decode cX7_exchange 6 = .ok (.invokevirtual 51, 3) := e_182 (x := 0) (y := 51) drcX7_exchange_0 6 rfl rfl
theorem dX7_exchange_9 : decode cX7_exchange 9 = .ok (.ifCond .eq 5, 3) := e_153 (x := 0) (y := 5) drcX7_exchange_0 9 rfl rfl
theorem dX7_exchange_12 : decode cX7_exchange 12 = .ok (.iconst 0, 1) := dec_3 (gB drcX7_exchange_0 12 rfl rfl)
theorem dX7_exchange_13 : decode cX7_exchange 13 = .ok (.ireturn, 1) := dec_172 (gB drcX7_exchange_0 13 rfl rfl)
theorem dX7_exchange_14 : decode cX7_exchange 14 = .ok (.aload_n 0, 1) := dec_42 (gB drcX7_exchange_0 14 rfl rfl)
theorem dX7_exchange_15 : decode cX7_exchange 15 = .ok (.iload_n 1, 1) := dec_27 (gB drcX7_exchange_0 15 rfl rfl)
theorem dX7_exchange_16 : decode cX7_exchange 16 = .ok (.aload_n 0, 1) := dec_42 (gB drcX7_exchange_0 16 rfl rfl)
theorem dX7_exchange_17 : decode cX7_exchange 17 = .ok (.getfield 9, 3) := e_180 (x := 0) (y := 9) drcX7_exchange_0 17 rfl rfl
theorem dX7_exchange_20 : decode cX7_exchange 20 = .ok (.iload_n 1, 1) := dec_27 (gB drcX7_exchange_0 20 rfl rfl)
theorem dX7_exchange_21 : decode cX7_exchange 21 = .ok (.aaload, 1) := dec_50 (gB drcX7_exchange_0 21 rfl rfl)
theorem dX7_exchange_22 : decode cX7_exchange 22 = .ok (.iconst 1, 1) := dec_4 (gB drcX7_exchange_0 22 rfl rfl)
theorem dX7_exchange_23 : decode cX7_exchange 23 = .ok (.newarray .int, 2) := by decide +kernel
theorem dX7_exchange_25 : decode cX7_exchange 25 = .ok (.dup, 1) := dec_89 (gB drcX7_exchange_0 25 rfl rfl)
theorem dX7_exchange_26 : decode cX7_exchange 26 = .ok (.iconst 0, 1) := dec_3 (gB drcX7_exchange_0 26 rfl rfl)
theorem dX7_exchange_27 : decode cX7_exchange 27 = .ok (.iconst 1, 1) := dec_4 (gB drcX7_exchange_0 27 rfl rfl)
theorem dX7_exchange_28 : decode cX7_exchange 28 = .ok (.iastore, 1) := dec_79 (gB drcX7_exchange_0 28 rfl rfl)
theorem dX7_exchange_29 : decode cX7_exchange 29 = .ok (.iconst 1, 1) := dec_4 (gB drcX7_exchange_0 29 rfl rfl)
theorem dX7_exchange_30 : decode cX7_exchange 30 = .ok (.newarray .int, 2) := by decide +kernel
theorem dX7_exchange_32 : decode cX7_exchange 32 = .ok (.dup, 1) := dec_89 (gB drcX7_exchange_0 32 rfl rfl)
theorem dX7_exchange_33 : decode cX7_exchange 33 = .ok (.iconst 0, 1) := dec_3 (gB drcX7_exchange_0 33 rfl rfl)
theorem dX7_exchange_34 : decode cX7_exchange 34 = .ok (.iconst 0, 1) := dec_3 (gB drcX7_exchange_0 34 rfl rfl)
theorem dX7_exchange_35 : decode cX7_exchange 35 = .ok (.iastore, 1) := dec_79 (gB drcX7_exchange_0 35 rfl rfl)
theorem dX7_exchange_36 : decode cX7_exchange 36 = .ok (.invokestatic 100, 3) := e_184 (x := 0) (y := 100) drcX7_exchange_0 36 rfl rfl
theorem dX7_exchange_39 : decode cX7_exchange 39 = .ok (.invokevirtual 59, 3) := e_182 (x := 0) (y := 59) drcX7_exchange_0 39 rfl rfl
theorem dX7_exchange_42 : decode cX7_exchange 42 = .ok (.pop, 1) := dec_87 (gB drcX7_exchange_0 42 rfl rfl)
theorem dX7_exchange_43 : decode cX7_exchange 43 = .ok (.aload_n 0, 1) := dec_42 (gB drcX7_exchange_0 43 rfl rfl)
theorem dX7_exchange_44 : decode cX7_exchange 44 = .ok (.getfield 9, 3) := e_180 (x := 0) (y := 9) drcX7_exchange_0 44 rfl rfl
theorem dX7_exchange_47 : decode cX7_exchange 47 = .ok (.iload_n 1, 1) := dec_27 (gB drcX7_exchange_0 47 rfl rfl)
theorem dX7_exchange_48 : decode cX7_exchange 48 = .ok (.aaload, 1) := dec_50 (gB drcX7_exchange_0 48 rfl rfl)
theorem dX7_exchange_49 : decode cX7_exchange 49 = .ok (.invokestatic 41, 3) := e_184 (x := 0) (y := 41) drcX7_exchange_0 49 rfl rfl
theorem dX7_exchange_52 : decode cX7_exchange 52 = .ok (.ireturn, 1) := dec_172 (gB drcX7_exchange_0 52 rfl rfl)
def lkcX7_rotate_0 : List UInt8 := [0x2a, 0x1b, 0xb8, 0x00, 0x21, 0x04, 0xb6, 0x00, 0x33, 0x9a, 0x00, 0x1f, 0x2a, 0x1c, 0x03, 0x2a, 0xb4, 0x00, 0x09, 0x1b, 0x32, 0xbe, 0xb8, 0x00, 0x1d, 0x9a, 0x00, 0x07, 0x04, 0xa7, 0x00, 0x04, 0x03, 0x05, 0xb6, 0x00, 0x19, 0x99, 0x00, 0x05, 0x03, 0xac, 0x2a, 0xb4, 0x00, 0x09, 0x1b, 0x32, 0x4e, 0x2d, 0xbe, 0xbc, 0x0a, 0x3a, 0x04, 0x03, 0x36, 0x05, 0x15, 0x05, 0x19, 0x04, 0xbe, 0xa2]
def lkcX7_rotate_1 : List UInt8 := [0x00, 0x17, 0x19, 0x04, 0x15, 0x05, 0x2d, 0x15, 0x05, 0x1c, 0x60, 0x2d, 0xbe, 0x70, 0x2e, 0x4f, 0x84, 0x05, 0x01, 0xa7, 0xff, 0xe7, 0x2a, 0x1b, 0x19, 0x04, 0xb6, 0x00, 0x61, 0xac]
def tkcX7_rotate_1 : List UInt8 := lkcX7_rotate_1 ++ []
def tkcX7_rotate_0 : List UInt8 := lkcX7_rotate_0 ++ tkcX7_rotate_1
theorem drcX7_rotate_0 : (cX7_rotate).data.toList.drop 0 = lkcX7_rotate_0 ++ tkcX7_rotate_1 := by decide +kernel
theorem drcX7_rotate_1 : (cX7_rotate).data.toList.drop 64 = lkcX7_rotate_1 ++ [] := dr_step drcX7_rotate_0 rfl
theorem dX7_rotate_0 : decode cX7_rotate 0 = .ok (.aload_n 0, 1) := dec_42 (gB drcX7_rotate_0 0 rfl rfl)
theorem dX7_rotate_1 : decode cX7_rotate 1 = .ok (.iload_n 1, 1) := dec_27 (gB drcX7_rotate_0 1 rfl rfl)
theorem dX7_rotate_2 : decode cX7_rotate 2 = .ok (.invokestatic 33, 3) := e_184 (x := 0) (y := 33) drcX7_rotate_0 2 rfl rfl
theorem dX7_rotate_5 : decode cX7_rotate 5 = .ok (.iconst 1, 1) := dec_4 (gB drcX7_rotate_0 5 rfl rfl)
theorem dX7_rotate_6 : decode cX7_rotate 6 = .ok (.invokevirtual 51, 3) := e_182 (x := 0) (y := 51) drcX7_rotate_0 6 rfl rfl
theorem dX7_rotate_9 : decode cX7_rotate 9 = .ok (.ifCond .ne 31, 3) := e_154 (x := 0) (y := 31) drcX7_rotate_0 9 rfl rfl
theorem dX7_rotate_12 : decode cX7_rotate 12 = .ok (.aload_n 0, 1) := dec_42 (gB drcX7_rotate_0 12 rfl rfl)
theorem dX7_rotate_13 : decode cX7_rotate 13 = .ok (.iload_n 2, 1) := dec_28 (gB drcX7_rotate_0 13 rfl rfl)
theorem dX7_rotate_14 : decode cX7_rotate 14 = .ok (.iconst 0, 1) := dec_3 (gB drcX7_rotate_0 14 rfl rfl)
theorem dX7_rotate_15 : decode cX7_rotate 15 = .ok (.aload_n 0, 1) := dec_42 (gB drcX7_rotate_0 15 rfl rfl)
theorem dX7_rotate_16 : decode cX7_rotate 16 = .ok (.getfield 9, 3) := e_180 (x := 0) (y := 9) drcX7_rotate_0 16 rfl rfl
theorem dX7_rotate_19 : decode cX7_rotate 19 = .ok (.iload_n 1, 1) := dec_27 (gB drcX7_rotate_0 19 rfl rfl)
theorem dX7_rotate_20 : decode cX7_rotate 20 = .ok (.aaload, 1) := dec_50 (gB drcX7_rotate_0 20 rfl rfl)
theorem dX7_rotate_21 : decode cX7_rotate 21 = .ok (.arraylength, 1) := dec_190 (gB drcX7_rotate_0 21 rfl rfl)
theorem dX7_rotate_22 : decode cX7_rotate 22 = .ok (.invokestatic 29, 3) := e_184 (x := 0) (y := 29) drcX7_rotate_0 22 rfl rfl
theorem dX7_rotate_25 : decode cX7_rotate 25 = .ok (.ifCond .ne 7, 3) := e_154 (x := 0) (y := 7) drcX7_rotate_0 25 rfl rfl
theorem dX7_rotate_28 : decode cX7_rotate 28 = .ok (.iconst 1, 1) := dec_4 (gB drcX7_rotate_0 28 rfl rfl)
theorem dX7_rotate_29 : decode cX7_rotate 29 = .ok (.goto 4, 3) := e_167 (x := 0) (y := 4) drcX7_rotate_0 29 rfl rfl
theorem dX7_rotate_32 : decode cX7_rotate 32 = .ok (.iconst 0, 1) := dec_3 (gB drcX7_rotate_0 32 rfl rfl)
theorem dX7_rotate_33 : decode cX7_rotate 33 = .ok (.iconst 2, 1) := dec_5 (gB drcX7_rotate_0 33 rfl rfl)
theorem dX7_rotate_34 : decode cX7_rotate 34 = .ok (.invokevirtual 25, 3) := e_182 (x := 0) (y := 25) drcX7_rotate_0 34 rfl rfl
theorem dX7_rotate_37 : decode cX7_rotate 37 = .ok (.ifCond .eq 5, 3) := e_153 (x := 0) (y := 5) drcX7_rotate_0 37 rfl rfl
theorem dX7_rotate_40 : decode cX7_rotate 40 = .ok (.iconst 0, 1) := dec_3 (gB drcX7_rotate_0 40 rfl rfl)
theorem dX7_rotate_41 : decode cX7_rotate 41 = .ok (.ireturn, 1) := dec_172 (gB drcX7_rotate_0 41 rfl rfl)
theorem dX7_rotate_42 : decode cX7_rotate 42 = .ok (.aload_n 0, 1) := dec_42 (gB drcX7_rotate_0 42 rfl rfl)
theorem dX7_rotate_43 : decode cX7_rotate 43 = .ok (.getfield 9, 3) := e_180 (x := 0) (y := 9) drcX7_rotate_0 43 rfl rfl
theorem dX7_rotate_46 : decode cX7_rotate 46 = .ok (.iload_n 1, 1) := dec_27 (gB drcX7_rotate_0 46 rfl rfl)
theorem dX7_rotate_47 : decode cX7_rotate 47 = .ok (.aaload, 1) := dec_50 (gB drcX7_rotate_0 47 rfl rfl)
theorem dX7_rotate_48 : decode cX7_rotate 48 = .ok (.astore_n 3, 1) := dec_78 (gB drcX7_rotate_0 48 rfl rfl)
theorem dX7_rotate_49 : decode cX7_rotate 49 = .ok (.aload_n 3, 1) := dec_45 (gB drcX7_rotate_0 49 rfl rfl)
theorem dX7_rotate_50 : decode cX7_rotate 50 = .ok (.arraylength, 1) := dec_190 (gB drcX7_rotate_0 50 rfl rfl)
theorem dX7_rotate_51 : decode cX7_rotate 51 = .ok (.newarray .int, 2) := by decide +kernel
theorem dX7_rotate_53 : decode cX7_rotate 53 = .ok (.astore 4, 2) := e_58 (x := 4) drcX7_rotate_0 53 rfl rfl
theorem dX7_rotate_55 : decode cX7_rotate 55 = .ok (.iconst 0, 1) := dec_3 (gB drcX7_rotate_0 55 rfl rfl)
theorem dX7_rotate_56 : decode cX7_rotate 56 = .ok (.istore 5, 2) := e_54 (x := 5) drcX7_rotate_0 56 rfl rfl
theorem dX7_rotate_58 : decode cX7_rotate 58 = .ok (.iload 5, 2) := e_21 (x := 5) drcX7_rotate_0 58 rfl rfl
theorem dX7_rotate_60 : decode cX7_rotate 60 = .ok (.aload 4, 2) := e_25 (x := 4) drcX7_rotate_0 60 rfl rfl
theorem dX7_rotate_62 : decode cX7_rotate 62 = .ok (.arraylength, 1) := dec_190 (gB drcX7_rotate_0 62 rfl rfl)
theorem dX7_rotate_63 : decode cX7_rotate 63 = .ok (.if_icmp .ge 23, 3) := dec_162 (a := 0) (b := 23) (gB drcX7_rotate_0 63 rfl rfl) (gB drcX7_rotate_1 0 rfl rfl) (gB drcX7_rotate_1 1 rfl rfl)
theorem dX7_rotate_66 : decode cX7_rotate 66 = .ok (.aload 4, 2) := e_25 (x := 4) drcX7_rotate_1 2 rfl rfl
theorem dX7_rotate_68 : decode cX7_rotate 68 = .ok (.iload 5, 2) := e_21 (x := 5) drcX7_rotate_1 4 rfl rfl
theorem dX7_rotate_70 : decode cX7_rotate 70 = .ok (.aload_n 3, 1) := dec_45 (gB drcX7_rotate_1 6 rfl rfl)
theorem dX7_rotate_71 : decode cX7_rotate 71 = .ok (.iload 5, 2) := e_21 (x := 5) drcX7_rotate_1 7 rfl rfl
theorem dX7_rotate_73 : decode cX7_rotate 73 = .ok (.iload_n 2, 1) := dec_28 (gB drcX7_rotate_1 9 rfl rfl)
theorem dX7_rotate_74 : decode cX7_rotate 74 = .ok (.iadd, 1) := dec_96 (gB drcX7_rotate_1 10 rfl rfl)
theorem dX7_rotate_75 : decode cX7_rotate 75 = .ok (.aload_n 3, 1) := dec_45 (gB drcX7_rotate_1 11 rfl rfl)
theorem dX7_rotate_76 : decode cX7_rotate 76 = .ok (.arraylength, 1) := dec_190 (gB drcX7_rotate_1 12 rfl rfl)
theorem dX7_rotate_77 : decode cX7_rotate 77 = .ok (.irem, 1) := dec_112 (gB drcX7_rotate_1 13 rfl rfl)
theorem dX7_rotate_78 : decode cX7_rotate 78 = .ok (.iaload, 1) := dec_46 (gB drcX7_rotate_1 14 rfl rfl)
theorem dX7_rotate_79 : decode cX7_rotate 79 = .ok (.iastore, 1) := dec_79 (gB drcX7_rotate_1 15 rfl rfl)
theorem dX7_rotate_80 : decode cX7_rotate 80 = .ok (.iinc 5 1, 3) := e_132 (x := 5) (y := 1) drcX7_rotate_1 16 rfl rfl
theorem dX7_rotate_83 : decode cX7_rotate 83 = .ok (.goto (-25), 3) := e_167 (x := 255) (y := 231) drcX7_rotate_1 19 rfl rfl
theorem dX7_rotate_86 : decode cX7_rotate 86 = .ok (.aload_n 0, 1) := dec_42 (gB drcX7_rotate_1 22 rfl rfl)
theorem dX7_rotate_87 : decode cX7_rotate 87 = .ok (.iload_n 1, 1) := dec_27 (gB drcX7_rotate_1 23 rfl rfl)
theorem dX7_rotate_88 : decode cX7_rotate 88 = .ok (.aload 4, 2) := e_25 (x := 4) drcX7_rotate_1 24 rfl rfl
theorem dX7_rotate_90 : decode cX7_rotate 90 = .ok (.invokevirtual 97, 3) := e_182 (x := 0) (y := 97) drcX7_rotate_1 26 rfl rfl
theorem dX7_rotate_93 : decode cX7_rotate 93 = .ok (.ireturn, 1) := dec_172 (gB drcX7_rotate_1 29 rfl rfl)
def lkcX7_copy_0 : List UInt8 := [0x2a, 0x1b, 0xb8, 0x00, 0x21, 0x9a, 0x00, 0x0a, 0x1c, 0xb8, 0x00, 0x21, 0x99, 0x00, 0x07, 0x04, 0xa7, 0x00, 0x04, 0x03, 0x04, 0xb6, 0x00, 0x33, 0x99, 0x00, 0x05, 0x03, 0xac, 0x2a, 0x1c, 0x2a, 0xb4, 0x00, 0x09, 0x1b, 0x32, 0xb6, 0x00, 0x61, 0xac]
def tkcX7_copy_0 : List UInt8 := lkcX7_copy_0 ++ []
theorem drcX7_copy_0 : (cX7_copy).data.toList.drop 0 = lkcX7_copy_0 ++ [] := by decide +kernel
theorem dX7_copy_0 : decode cX7_copy 0 = .ok (.aload_n 0, 1) := dec_42 (gB drcX7_copy_0 0 rfl rfl)
theorem dX7_copy_1 : decode cX7_copy 1 = .ok (.iload_n 1, 1) := dec_27 (gB drcX7_copy_0 1 rfl rfl)
theorem dX7_copy_2 : decode cX7_copy 2 = .ok (.invokestatic 33, 3) := e_184 (x := 0) (y := 33) drcX7_copy_0 2 rfl rfl
theorem dX7_copy_5 : decode cX7_copy 5 = .ok (.ifCond .ne 10, 3) := e_154 (x := 0) (y := 10) drcX7_copy_0 5 rfl rfl
theorem dX7_copy_8 : decode cX7_copy 8 = .ok (.iload_n 2, 1) := dec_28 (gB drcX7_copy_0 8 rfl rfl)
theorem dX7_copy_9 : decode cX7_copy 9 = .ok (.invokestatic 33, 3) := e_184 (x := 0) (y := 33) drcX7_copy_0 9 rfl rfl
theorem dX7_copy_12 : decode cX7_copy 12 = .ok (.ifCond .eq 7, 3) := e_153 (x := 0) (y := 7) drcX7_copy_0 12 rfl rfl
theorem dX7_copy_15 : decode cX7_copy 15 = .ok (.iconst 1, 1) := dec_4 (gB drcX7_copy_0 15 rfl rfl)
theorem dX7_copy_16 : decode cX7_copy 16 = .ok (.goto 4, 3) := e_167 (x := 0) (y := 4) drcX7_copy_0 16 rfl rfl
theorem dX7_copy_19 : decode cX7_copy 19 = .ok (.iconst 0, 1) := dec_3 (gB drcX7_copy_0 19 rfl rfl)
theorem dX7_copy_20 : decode cX7_copy 20 = .ok (.iconst 1, 1) := dec_4 (gB drcX7_copy_0 20 rfl rfl)
theorem dX7_copy_21 : decode cX7_copy 21 = .ok (.invokevirtual 51, 3) := e_182 (x := 0) (y := 51) drcX7_copy_0 21 rfl rfl
theorem dX7_copy_24 : decode cX7_copy 24 = .ok (.ifCond .eq 5, 3) := e_153 (x := 0) (y := 5) drcX7_copy_0 24 rfl rfl
theorem dX7_copy_27 : decode cX7_copy 27 = .ok (.iconst 0, 1) := dec_3 (gB drcX7_copy_0 27 rfl rfl)
theorem dX7_copy_28 : decode cX7_copy 28 = .ok (.ireturn, 1) := dec_172 (gB drcX7_copy_0 28 rfl rfl)
theorem dX7_copy_29 : decode cX7_copy 29 = .ok (.aload_n 0, 1) := dec_42 (gB drcX7_copy_0 29 rfl rfl)
theorem dX7_copy_30 : decode cX7_copy 30 = .ok (.iload_n 2, 1) := dec_28 (gB drcX7_copy_0 30 rfl rfl)
theorem dX7_copy_31 : decode cX7_copy 31 = .ok (.aload_n 0, 1) := dec_42 (gB drcX7_copy_0 31 rfl rfl)
theorem dX7_copy_32 : decode cX7_copy 32 = .ok (.getfield 9, 3) := e_180 (x := 0) (y := 9) drcX7_copy_0 32 rfl rfl
theorem dX7_copy_35 : decode cX7_copy 35 = .ok (.iload_n 1, 1) := dec_27 (gB drcX7_copy_0 35 rfl rfl)
theorem dX7_copy_36 : decode cX7_copy 36 = .ok (.aaload, 1) := dec_50 (gB drcX7_copy_0 36 rfl rfl)
theorem dX7_copy_37 : decode cX7_copy 37 = .ok (.invokevirtual 97, 3) := e_182 (x := 0) (y := 97) drcX7_copy_0 37 rfl rfl
theorem dX7_copy_40 : decode cX7_copy 40 = .ok (.ireturn, 1) := dec_172 (gB drcX7_copy_0 40 rfl rfl)
def lkcX7_isNoRule_0 : List UInt8 := [0x1a, 0x05, 0x10, 0x1f, 0xb8, 0x00, 0x1d, 0x99, 0x00, 0x0d, 0x1b, 0x05, 0x10, 0x1f, 0xb8, 0x00, 0x1d, 0x9a, 0x00, 0x07, 0x04, 0xa7, 0x00, 0x04, 0x03, 0xac]
def tkcX7_isNoRule_0 : List UInt8 := lkcX7_isNoRule_0 ++ []
theorem drcX7_isNoRule_0 : (cX7_isNoRule).data.toList.drop 0 = lkcX7_isNoRule_0 ++ [] := by decide +kernel
theorem dX7_isNoRule_0 : decode cX7_isNoRule 0 = .ok (.iload_n 0, 1) := dec_26 (gB drcX7_isNoRule_0 0 rfl rfl)
theorem dX7_isNoRule_1 : decode cX7_isNoRule 1 = .ok (.iconst 2, 1) := dec_5 (gB drcX7_isNoRule_0 1 rfl rfl)
theorem dX7_isNoRule_2 : decode cX7_isNoRule 2 = .ok (.bipush 31, 2) := e_16 (x := 31) drcX7_isNoRule_0 2 rfl rfl
theorem dX7_isNoRule_4 : decode cX7_isNoRule 4 = .ok (.invokestatic 29, 3) := e_184 (x := 0) (y := 29) drcX7_isNoRule_0 4 rfl rfl
theorem dX7_isNoRule_7 : decode cX7_isNoRule 7 = .ok (.ifCond .eq 13, 3) := e_153 (x := 0) (y := 13) drcX7_isNoRule_0 7 rfl rfl
theorem dX7_isNoRule_10 : decode cX7_isNoRule 10 = .ok (.iload_n 1, 1) := dec_27 (gB drcX7_isNoRule_0 10 rfl rfl)
theorem dX7_isNoRule_11 : decode cX7_isNoRule 11 = .ok (.iconst 2, 1) := dec_5 (gB drcX7_isNoRule_0 11 rfl rfl)
theorem dX7_isNoRule_12 : decode cX7_isNoRule 12 = .ok (.bipush 31, 2) := e_16 (x := 31) drcX7_isNoRule_0 12 rfl rfl
theorem dX7_isNoRule_14 : decode cX7_isNoRule 14 = .ok (.invokestatic 29, 3) := e_184 (x := 0) (y := 29) drcX7_isNoRule_0 14 rfl rfl
theorem dX7_isNoRule_17 : decode cX7_isNoRule 17 = .ok (.ifCond .ne 7, 3) := e_154 (x := 0) (y := 7) drcX7_isNoRule_0 17 rfl rfl
theorem dX7_isNoRule_20 : decode cX7_isNoRule 20 = .ok (.iconst 1, 1) := dec_4 (gB drcX7_isNoRule_0 20 rfl rfl)
theorem dX7_isNoRule_21 : decode cX7_isNoRule 21 = .ok (.goto 4, 3) := e_167 (x := 0) (y := 4) drcX7_isNoRule_0 21 rfl rfl
theorem dX7_isNoRule_24 : decode cX7_isNoRule 24 = .ok (.iconst 0, 1) := dec_3 (gB drcX7_isNoRule_0 24 rfl rfl)
theorem dX7_isNoRule_25 : decode cX7_isNoRule 25 = .ok (.ireturn, 1) := dec_172 (gB drcX7_isNoRule_0 25 rfl rfl)
def lkcX7_apply_0 : List UInt8 := [0x2a, 0x1b, 0xb8, 0x00, 0x21, 0x04, 0xb6, 0x00, 0x33, 0x9a, 0x00, 0x10, 0x2a, 0x1c, 0x1d, 0xb8, 0x00, 0x68, 0x05, 0xb6, 0x00, 0x19, 0x99, 0x00, 0x05, 0x03, 0xac, 0x2a, 0xb4, 0x00, 0x09, 0x1b, 0x32, 0x1c, 0xb8, 0x00, 0x37, 0x1d, 0xb8, 0x00, 0x37, 0xb8, 0x00, 0x64, 0x3a, 0x04, 0x19, 0x04, 0xbe, 0x10, 0x40, 0xa4, 0x00, 0x0a, 0x2a, 0xb6, 0x00, 0x3f, 0xa7, 0x00, 0x0a, 0x2a, 0x1b, 0x19]
def lkcX7_apply_1 : List UInt8 := [0x04, 0xb6, 0x00, 0x3b, 0xac]
def tkcX7_apply_1 : List UInt8 := lkcX7_apply_1 ++ []
def tkcX7_apply_0 : List UInt8 := lkcX7_apply_0 ++ tkcX7_apply_1
theorem drcX7_apply_0 : (cX7_apply).data.toList.drop 0 = lkcX7_apply_0 ++ tkcX7_apply_1 := by decide +kernel
theorem drcX7_apply_1 : (cX7_apply).data.toList.drop 64 = lkcX7_apply_1 ++ [] := dr_step drcX7_apply_0 rfl
theorem dX7_apply_0 : decode cX7_apply 0 = .ok (.aload_n 0, 1) := dec_42 (gB drcX7_apply_0 0 rfl rfl)
theorem dX7_apply_1 : decode cX7_apply 1 = .ok (.iload_n 1, 1) := dec_27 (gB drcX7_apply_0 1 rfl rfl)
theorem dX7_apply_2 : decode cX7_apply 2 = .ok (.invokestatic 33, 3) := e_184 (x := 0) (y := 33) drcX7_apply_0 2 rfl rfl
theorem dX7_apply_5 : decode cX7_apply 5 = .ok (.iconst 1, 1) := dec_4 (gB drcX7_apply_0 5 rfl rfl)
theorem dX7_apply_6 : decode cX7_apply 6 = .ok (.invokevirtual 51, 3) := e_182 (x := 0) (y := 51) drcX7_apply_0 6 rfl rfl
theorem dX7_apply_9 : decode cX7_apply 9 = .ok (.ifCond .ne 16, 3) := e_154 (x := 0) (y := 16) drcX7_apply_0 9 rfl rfl
theorem dX7_apply_12 : decode cX7_apply 12 = .ok (.aload_n 0, 1) := dec_42 (gB drcX7_apply_0 12 rfl rfl)
theorem dX7_apply_13 : decode cX7_apply 13 = .ok (.iload_n 2, 1) := dec_28 (gB drcX7_apply_0 13 rfl rfl)
theorem dX7_apply_14 : decode cX7_apply 14 = .ok (.iload_n 3, 1) := dec_29 (gB drcX7_apply_0 14 rfl rfl)
theorem dX7_apply_15 : decode cX7_apply 15 = .ok (.invokestatic 104, 3) := e_184 (x := 0) (y := 104) drcX7_apply_0 15 rfl rfl
theorem dX7_apply_18 : decode cX7_apply 18 = .ok (.iconst 2, 1) := dec_5 (gB drcX7_apply_0 18 rfl rfl)
theorem dX7_apply_19 : decode cX7_apply 19 = .ok (.invokevirtual 25, 3) := e_182 (x := 0) (y := 25) drcX7_apply_0 19 rfl rfl
theorem dX7_apply_22 : decode cX7_apply 22 = .ok (.ifCond .eq 5, 3) := e_153 (x := 0) (y := 5) drcX7_apply_0 22 rfl rfl
theorem dX7_apply_25 : decode cX7_apply 25 = .ok (.iconst 0, 1) := dec_3 (gB drcX7_apply_0 25 rfl rfl)
theorem dX7_apply_26 : decode cX7_apply 26 = .ok (.ireturn, 1) := dec_172 (gB drcX7_apply_0 26 rfl rfl)
theorem dX7_apply_27 : decode cX7_apply 27 = .ok (.aload_n 0, 1) := dec_42 (gB drcX7_apply_0 27 rfl rfl)
theorem dX7_apply_28 : decode cX7_apply 28 = .ok (.getfield 9, 3) := e_180 (x := 0) (y := 9) drcX7_apply_0 28 rfl rfl
theorem dX7_apply_31 : decode cX7_apply 31 = .ok (.iload_n 1, 1) := dec_27 (gB drcX7_apply_0 31 rfl rfl)
theorem dX7_apply_32 : decode cX7_apply 32 = .ok (.aaload, 1) := dec_50 (gB drcX7_apply_0 32 rfl rfl)
theorem dX7_apply_33 : decode cX7_apply 33 = .ok (.iload_n 2, 1) := dec_28 (gB drcX7_apply_0 33 rfl rfl)
theorem dX7_apply_34 : decode cX7_apply 34 = .ok (.invokestatic 55, 3) := e_184 (x := 0) (y := 55) drcX7_apply_0 34 rfl rfl
theorem dX7_apply_37 : decode cX7_apply 37 = .ok (.iload_n 3, 1) := dec_29 (gB drcX7_apply_0 37 rfl rfl)
theorem dX7_apply_38 : decode cX7_apply 38 = .ok (.invokestatic 55, 3) := e_184 (x := 0) (y := 55) drcX7_apply_0 38 rfl rfl
theorem dX7_apply_41 : decode cX7_apply 41 = .ok (.invokestatic 100, 3) := e_184 (x := 0) (y := 100) drcX7_apply_0 41 rfl rfl
theorem dX7_apply_44 : decode cX7_apply 44 = .ok (.astore 4, 2) := e_58 (x := 4) drcX7_apply_0 44 rfl rfl
theorem dX7_apply_46 : decode cX7_apply 46 = .ok (.aload 4, 2) := e_25 (x := 4) drcX7_apply_0 46 rfl rfl
theorem dX7_apply_48 : decode cX7_apply 48 = .ok (.arraylength, 1) := dec_190 (gB drcX7_apply_0 48 rfl rfl)
theorem dX7_apply_49 : decode cX7_apply 49 = .ok (.bipush 64, 2) := e_16 (x := 64) drcX7_apply_0 49 rfl rfl
theorem dX7_apply_51 : decode cX7_apply 51 = .ok (.if_icmp .le 10, 3) := e_164 (x := 0) (y := 10) drcX7_apply_0 51 rfl rfl
theorem dX7_apply_54 : decode cX7_apply 54 = .ok (.aload_n 0, 1) := dec_42 (gB drcX7_apply_0 54 rfl rfl)
theorem dX7_apply_55 : decode cX7_apply 55 = .ok (.invokevirtual 63, 3) := e_182 (x := 0) (y := 63) drcX7_apply_0 55 rfl rfl
theorem dX7_apply_58 : decode cX7_apply 58 = .ok (.goto 10, 3) := e_167 (x := 0) (y := 10) drcX7_apply_0 58 rfl rfl
theorem dX7_apply_61 : decode cX7_apply 61 = .ok (.aload_n 0, 1) := dec_42 (gB drcX7_apply_0 61 rfl rfl)
theorem dX7_apply_62 : decode cX7_apply 62 = .ok (.iload_n 1, 1) := dec_27 (gB drcX7_apply_0 62 rfl rfl)
theorem dX7_apply_63 : decode cX7_apply 63 = .ok (.aload 4, 2) := dec_25 (a := 4) (gB drcX7_apply_0 63 rfl rfl) (gB drcX7_apply_1 0 rfl rfl)
theorem dX7_apply_65 : decode cX7_apply 65 = .ok (.invokevirtual 59, 3) := e_182 (x := 0) (y := 59) drcX7_apply_1 1 rfl rfl
theorem dX7_apply_68 : decode cX7_apply 68 = .ok (.ireturn, 1) := dec_172 (gB drcX7_apply_1 4 rfl rfl)
def lkcX7_isApartRule_0 : List UInt8 := [0x1a, 0xb8, 0x00, 0x37, 0x4d, 0x1b, 0xb8, 0x00, 0x37, 0x4e, 0x2c, 0x2c, 0xbe, 0x2c, 0xbe, 0x2d, 0xb8, 0x00, 0x43, 0x2d, 0x2d, 0xbe, 0x2d, 0xbe, 0x2c, 0xb8, 0x00, 0x43, 0xb8, 0x00, 0x59, 0x9a, 0x00, 0x07, 0x04, 0xa7, 0x00, 0x04, 0x03, 0xac]
def tkcX7_isApartRule_0 : List UInt8 := lkcX7_isApartRule_0 ++ []
theorem drcX7_isApartRule_0 : (cX7_isApartRule).data.toList.drop 0 = lkcX7_isApartRule_0 ++ [] := by decide +kernel
theorem dX7_isApartRule_0 : decode cX7_isApartRule 0 = .ok (.iload_n 0, 1) := dec_26 (gB drcX7_isApartRule_0 0 rfl rfl)
theorem dX7_isApartRule_1 : decode cX7_isApartRule 1 = .ok (.invokestatic 55, 3) := e_184 (x := 0) (y := 55) drcX7_isApartRule_0 1 rfl rfl
theorem dX7_isApartRule_4 : decode cX7_isApartRule 4 = .ok (.astore_n 2, 1) := dec_77 (gB drcX7_isApartRule_0 4 rfl rfl)
theorem dX7_isApartRule_5 : decode cX7_isApartRule 5 = .ok (.iload_n 1, 1) := dec_27 (gB drcX7_isApartRule_0 5 rfl rfl)
theorem dX7_isApartRule_6 : decode cX7_isApartRule 6 = .ok (.invokestatic 55, 3) := e_184 (x := 0) (y := 55) drcX7_isApartRule_0 6 rfl rfl
theorem dX7_isApartRule_9 : decode cX7_isApartRule 9 = .ok (.astore_n 3, 1) := dec_78 (gB drcX7_isApartRule_0 9 rfl rfl)
theorem dX7_isApartRule_10 : decode cX7_isApartRule 10 = .ok (.aload_n 2, 1) := dec_44 (gB drcX7_isApartRule_0 10 rfl rfl)
theorem dX7_isApartRule_11 : decode cX7_isApartRule 11 = .ok (.aload_n 2, 1) := dec_44 (gB drcX7_isApartRule_0 11 rfl rfl)
theorem dX7_isApartRule_12 : decode cX7_isApartRule 12 = .ok (.arraylength, 1) := dec_190 (gB drcX7_isApartRule_0 12 rfl rfl)
theorem dX7_isApartRule_13 : decode cX7_isApartRule 13 = .ok (.aload_n 2, 1) := dec_44 (gB drcX7_isApartRule_0 13 rfl rfl)
theorem dX7_isApartRule_14 : decode cX7_isApartRule 14 = .ok (.arraylength, 1) := dec_190 (gB drcX7_isApartRule_0 14 rfl rfl)
theorem dX7_isApartRule_15 : decode cX7_isApartRule 15 = .ok (.aload_n 3, 1) := dec_45 (gB drcX7_isApartRule_0 15 rfl rfl)
theorem dX7_isApartRule_16 : decode cX7_isApartRule 16 = .ok (.invokestatic 67, 3) := e_184 (x := 0) (y := 67) drcX7_isApartRule_0 16 rfl rfl
theorem dX7_isApartRule_19 : decode cX7_isApartRule 19 = .ok (.aload_n 3, 1) := dec_45 (gB drcX7_isApartRule_0 19 rfl rfl)
theorem dX7_isApartRule_20 : decode cX7_isApartRule 20 = .ok (.aload_n 3, 1) := dec_45 (gB drcX7_isApartRule_0 20 rfl rfl)
theorem dX7_isApartRule_21 : decode cX7_isApartRule 21 = .ok (.arraylength, 1) := dec_190 (gB drcX7_isApartRule_0 21 rfl rfl)
theorem dX7_isApartRule_22 : decode cX7_isApartRule 22 = .ok (.aload_n 3, 1) := dec_45 (gB drcX7_isApartRule_0 22 rfl rfl)
theorem dX7_isApartRule_23 : decode cX7_isApartRule 23 = .ok (.arraylength, 1) := dec_190 (gB drcX7_isApartRule_0 23 rfl rfl)
theorem dX7_isApartRule_24 : decode cX7_isApartRule 24 = .ok (.aload_n 2, 1) := dec_44 (gB drcX7_isApartRule_0 24 rfl rfl)
theorem dX7_isApartRule_25 : decode cX7_isApartRule 25 = .ok (.invokestatic 67, 3) := e_184 (x := 0) (y := 67) drcX7_isApartRule_0 25 rfl rfl
theorem dX7_isApartRule_28 : decode cX7_isApartRule 28 = .ok (.invokestatic 89, 3) := e_184 (x := 0) (y := 89) drcX7_isApartRule_0 28 rfl rfl
theorem dX7_isApartRule_31 : decode cX7_isApartRule 31 = .ok (.ifCond .ne 7, 3) := e_154 (x := 0) (y := 7) drcX7_isApartRule_0 31 rfl rfl
theorem dX7_isApartRule_34 : decode cX7_isApartRule 34 = .ok (.iconst 1, 1) := dec_4 (gB drcX7_isApartRule_0 34 rfl rfl)
theorem dX7_isApartRule_35 : decode cX7_isApartRule 35 = .ok (.goto 4, 3) := e_167 (x := 0) (y := 4) drcX7_isApartRule_0 35 rfl rfl
theorem dX7_isApartRule_38 : decode cX7_isApartRule 38 = .ok (.iconst 0, 1) := dec_3 (gB drcX7_isApartRule_0 38 rfl rfl)
theorem dX7_isApartRule_39 : decode cX7_isApartRule 39 = .ok (.ireturn, 1) := dec_172 (gB drcX7_isApartRule_0 39 rfl rfl)
def lkcX7_steps_0 : List UInt8 := [0x2a, 0xbe, 0x04, 0x60, 0xbc, 0x0a, 0x4e, 0x2a, 0xbe, 0x04, 0x64, 0x36, 0x04, 0x15, 0x04, 0x9b, 0x00, 0x6a, 0x2a, 0x2b, 0x15, 0x04, 0xb8, 0x00, 0x25, 0x99, 0x00, 0x1b, 0x15, 0x04, 0x2b, 0xbe, 0x60, 0x2a, 0xbe, 0x9f, 0x00, 0x0d, 0x2d, 0x15, 0x04, 0x2b, 0xbe, 0x60, 0x2e, 0x9e, 0x00, 0x07, 0x04, 0xa7, 0x00, 0x04, 0x03, 0x36, 0x05, 0x2a, 0x2c, 0x15, 0x04, 0xb8, 0x00, 0x25, 0x99, 0x00]
def lkcX7_steps_1 : List UInt8 := [0x1b, 0x15, 0x04, 0x2c, 0xbe, 0x60, 0x2a, 0xbe, 0x9f, 0x00, 0x0d, 0x2d, 0x15, 0x04, 0x2c, 0xbe, 0x60, 0x2e, 0x9e, 0x00, 0x07, 0x04, 0xa7, 0x00, 0x04, 0x03, 0x36, 0x06, 0x2d, 0x15, 0x04, 0x15, 0x05, 0x99, 0x00, 0x07, 0x04, 0xa7, 0x00, 0x0d, 0x15, 0x06, 0x99, 0x00, 0x07, 0x05, 0xa7, 0x00, 0x04, 0x03, 0x4f, 0x84, 0x04, 0xff, 0xa7, 0xff, 0x97, 0x2d, 0xb0]
def tkcX7_steps_1 : List UInt8 := lkcX7_steps_1 ++ []
def tkcX7_steps_0 : List UInt8 := lkcX7_steps_0 ++ tkcX7_steps_1
theorem drcX7_steps_0 : (cX7_steps).data.toList.drop 0 = lkcX7_steps_0 ++ tkcX7_steps_1 := by decide +kernel
theorem drcX7_steps_1 : (cX7_steps).data.toList.drop 64 = lkcX7_steps_1 ++ [] := dr_step drcX7_steps_0 rfl
theorem dX7_steps_0 : decode cX7_steps 0 = .ok (.aload_n 0, 1) := dec_42 (gB drcX7_steps_0 0 rfl rfl)
theorem dX7_steps_1 : decode cX7_steps 1 = .ok (.arraylength, 1) := dec_190 (gB drcX7_steps_0 1 rfl rfl)
theorem dX7_steps_2 : decode cX7_steps 2 = .ok (.iconst 1, 1) := dec_4 (gB drcX7_steps_0 2 rfl rfl)
theorem dX7_steps_3 : decode cX7_steps 3 = .ok (.iadd, 1) := dec_96 (gB drcX7_steps_0 3 rfl rfl)
theorem dX7_steps_4 : decode cX7_steps 4 = .ok (.newarray .int, 2) := by decide +kernel
theorem dX7_steps_6 : decode cX7_steps 6 = .ok (.astore_n 3, 1) := dec_78 (gB drcX7_steps_0 6 rfl rfl)
theorem dX7_steps_7 : decode cX7_steps 7 = .ok (.aload_n 0, 1) := dec_42 (gB drcX7_steps_0 7 rfl rfl)
theorem dX7_steps_8 : decode cX7_steps 8 = .ok (.arraylength, 1) := dec_190 (gB drcX7_steps_0 8 rfl rfl)
theorem dX7_steps_9 : decode cX7_steps 9 = .ok (.iconst 1, 1) := dec_4 (gB drcX7_steps_0 9 rfl rfl)
theorem dX7_steps_10 : decode cX7_steps 10 = .ok (.isub, 1) := dec_100 (gB drcX7_steps_0 10 rfl rfl)
theorem dX7_steps_11 : decode cX7_steps 11 = .ok (.istore 4, 2) := e_54 (x := 4) drcX7_steps_0 11 rfl rfl
theorem dX7_steps_13 : decode cX7_steps 13 = .ok (.iload 4, 2) := e_21 (x := 4) drcX7_steps_0 13 rfl rfl
theorem dX7_steps_15 : decode cX7_steps 15 = .ok (.ifCond .lt 106, 3) := e_155 (x := 0) (y := 106) drcX7_steps_0 15 rfl rfl
theorem dX7_steps_18 : decode cX7_steps 18 = .ok (.aload_n 0, 1) := dec_42 (gB drcX7_steps_0 18 rfl rfl)
theorem dX7_steps_19 : decode cX7_steps 19 = .ok (.aload_n 1, 1) := dec_43 (gB drcX7_steps_0 19 rfl rfl)
theorem dX7_steps_20 : decode cX7_steps 20 = .ok (.iload 4, 2) := e_21 (x := 4) drcX7_steps_0 20 rfl rfl
theorem dX7_steps_22 : decode cX7_steps 22 = .ok (.invokestatic 37, 3) := e_184 (x := 0) (y := 37) drcX7_steps_0 22 rfl rfl
theorem dX7_steps_25 : decode cX7_steps 25 = .ok (.ifCond .eq 27, 3) := e_153 (x := 0) (y := 27) drcX7_steps_0 25 rfl rfl
theorem dX7_steps_28 : decode cX7_steps 28 = .ok (.iload 4, 2) := e_21 (x := 4) drcX7_steps_0 28 rfl rfl
theorem dX7_steps_30 : decode cX7_steps 30 = .ok (.aload_n 1, 1) := dec_43 (gB drcX7_steps_0 30 rfl rfl)
theorem dX7_steps_31 : decode cX7_steps 31 = .ok (.arraylength, 1) := dec_190 (gB drcX7_steps_0 31 rfl rfl)
theorem dX7_steps_32 : decode cX7_steps 32 = .ok (.iadd, 1) := dec_96 (gB drcX7_steps_0 32 rfl rfl)
theorem dX7_steps_33 : decode cX7_steps 33 = .ok (.aload_n 0, 1) := dec_42 (gB drcX7_steps_0 33 rfl rfl)
theorem dX7_steps_34 : decode cX7_steps 34 = .ok (.arraylength, 1) := dec_190 (gB drcX7_steps_0 34 rfl rfl)
theorem dX7_steps_35 : decode cX7_steps 35 = .ok (.if_icmp .eq 13, 3) := e_159 (x := 0) (y := 13) drcX7_steps_0 35 rfl rfl
theorem dX7_steps_38 : decode cX7_steps 38 = .ok (.aload_n 3, 1) := dec_45 (gB drcX7_steps_0 38 rfl rfl)
theorem dX7_steps_39 : decode cX7_steps 39 = .ok (.iload 4, 2) := e_21 (x := 4) drcX7_steps_0 39 rfl rfl
theorem dX7_steps_41 : decode cX7_steps 41 = .ok (.aload_n 1, 1) := dec_43 (gB drcX7_steps_0 41 rfl rfl)
theorem dX7_steps_42 : decode cX7_steps 42 = .ok (.arraylength, 1) := dec_190 (gB drcX7_steps_0 42 rfl rfl)
theorem dX7_steps_43 : decode cX7_steps 43 = .ok (.iadd, 1) := dec_96 (gB drcX7_steps_0 43 rfl rfl)
theorem dX7_steps_44 : decode cX7_steps 44 = .ok (.iaload, 1) := dec_46 (gB drcX7_steps_0 44 rfl rfl)
theorem dX7_steps_45 : decode cX7_steps 45 = .ok (.ifCond .le 7, 3) := e_158 (x := 0) (y := 7) drcX7_steps_0 45 rfl rfl
theorem dX7_steps_48 : decode cX7_steps 48 = .ok (.iconst 1, 1) := dec_4 (gB drcX7_steps_0 48 rfl rfl)
theorem dX7_steps_49 : decode cX7_steps 49 = .ok (.goto 4, 3) := e_167 (x := 0) (y := 4) drcX7_steps_0 49 rfl rfl
theorem dX7_steps_52 : decode cX7_steps 52 = .ok (.iconst 0, 1) := dec_3 (gB drcX7_steps_0 52 rfl rfl)
theorem dX7_steps_53 : decode cX7_steps 53 = .ok (.istore 5, 2) := e_54 (x := 5) drcX7_steps_0 53 rfl rfl
theorem dX7_steps_55 : decode cX7_steps 55 = .ok (.aload_n 0, 1) := dec_42 (gB drcX7_steps_0 55 rfl rfl)
theorem dX7_steps_56 : decode cX7_steps 56 = .ok (.aload_n 2, 1) := dec_44 (gB drcX7_steps_0 56 rfl rfl)
theorem dX7_steps_57 : decode cX7_steps 57 = .ok (.iload 4, 2) := e_21 (x := 4) drcX7_steps_0 57 rfl rfl
theorem dX7_steps_59 : decode cX7_steps 59 = .ok (.invokestatic 37, 3) := e_184 (x := 0) (y := 37) drcX7_steps_0 59 rfl rfl
theorem dX7_steps_62 : decode cX7_steps 62 = .ok (.ifCond .eq 27, 3) := dec_153 (a := 0) (b := 27) (gB drcX7_steps_0 62 rfl rfl) (gB drcX7_steps_0 63 rfl rfl) (gB drcX7_steps_1 0 rfl rfl)
theorem dX7_steps_65 : decode cX7_steps 65 = .ok (.iload 4, 2) := e_21 (x := 4) drcX7_steps_1 1 rfl rfl
theorem dX7_steps_67 : decode cX7_steps 67 = .ok (.aload_n 2, 1) := dec_44 (gB drcX7_steps_1 3 rfl rfl)
theorem dX7_steps_68 : decode cX7_steps 68 = .ok (.arraylength, 1) := dec_190 (gB drcX7_steps_1 4 rfl rfl)
theorem dX7_steps_69 : decode cX7_steps 69 = .ok (.iadd, 1) := dec_96 (gB drcX7_steps_1 5 rfl rfl)
theorem dX7_steps_70 : decode cX7_steps 70 = .ok (.aload_n 0, 1) := dec_42 (gB drcX7_steps_1 6 rfl rfl)
theorem dX7_steps_71 : decode cX7_steps 71 = .ok (.arraylength, 1) := dec_190 (gB drcX7_steps_1 7 rfl rfl)
theorem dX7_steps_72 : decode cX7_steps 72 = .ok (.if_icmp .eq 13, 3) := e_159 (x := 0) (y := 13) drcX7_steps_1 8 rfl rfl
theorem dX7_steps_75 : decode cX7_steps 75 = .ok (.aload_n 3, 1) := dec_45 (gB drcX7_steps_1 11 rfl rfl)
theorem dX7_steps_76 : decode cX7_steps 76 = .ok (.iload 4, 2) := e_21 (x := 4) drcX7_steps_1 12 rfl rfl
theorem dX7_steps_78 : decode cX7_steps 78 = .ok (.aload_n 2, 1) := dec_44 (gB drcX7_steps_1 14 rfl rfl)
theorem dX7_steps_79 : decode cX7_steps 79 = .ok (.arraylength, 1) := dec_190 (gB drcX7_steps_1 15 rfl rfl)
theorem dX7_steps_80 : decode cX7_steps 80 = .ok (.iadd, 1) := dec_96 (gB drcX7_steps_1 16 rfl rfl)
theorem dX7_steps_81 : decode cX7_steps 81 = .ok (.iaload, 1) := dec_46 (gB drcX7_steps_1 17 rfl rfl)
theorem dX7_steps_82 : decode cX7_steps 82 = .ok (.ifCond .le 7, 3) := e_158 (x := 0) (y := 7) drcX7_steps_1 18 rfl rfl
theorem dX7_steps_85 : decode cX7_steps 85 = .ok (.iconst 1, 1) := dec_4 (gB drcX7_steps_1 21 rfl rfl)
theorem dX7_steps_86 : decode cX7_steps 86 = .ok (.goto 4, 3) := e_167 (x := 0) (y := 4) drcX7_steps_1 22 rfl rfl
theorem dX7_steps_89 : decode cX7_steps 89 = .ok (.iconst 0, 1) := dec_3 (gB drcX7_steps_1 25 rfl rfl)
theorem dX7_steps_90 : decode cX7_steps 90 = .ok (.istore 6, 2) := e_54 (x := 6) drcX7_steps_1 26 rfl rfl
theorem dX7_steps_92 : decode cX7_steps 92 = .ok (.aload_n 3, 1) := dec_45 (gB drcX7_steps_1 28 rfl rfl)
theorem dX7_steps_93 : decode cX7_steps 93 = .ok (.iload 4, 2) := e_21 (x := 4) drcX7_steps_1 29 rfl rfl
theorem dX7_steps_95 : decode cX7_steps 95 = .ok (.iload 5, 2) := e_21 (x := 5) drcX7_steps_1 31 rfl rfl
theorem dX7_steps_97 : decode cX7_steps 97 = .ok (.ifCond .eq 7, 3) := e_153 (x := 0) (y := 7) drcX7_steps_1 33 rfl rfl
theorem dX7_steps_100 : decode cX7_steps 100 = .ok (.iconst 1, 1) := dec_4 (gB drcX7_steps_1 36 rfl rfl)
theorem dX7_steps_101 : decode cX7_steps 101 = .ok (.goto 13, 3) := e_167 (x := 0) (y := 13) drcX7_steps_1 37 rfl rfl
theorem dX7_steps_104 : decode cX7_steps 104 = .ok (.iload 6, 2) := e_21 (x := 6) drcX7_steps_1 40 rfl rfl
theorem dX7_steps_106 : decode cX7_steps 106 = .ok (.ifCond .eq 7, 3) := e_153 (x := 0) (y := 7) drcX7_steps_1 42 rfl rfl
theorem dX7_steps_109 : decode cX7_steps 109 = .ok (.iconst 2, 1) := dec_5 (gB drcX7_steps_1 45 rfl rfl)
theorem dX7_steps_110 : decode cX7_steps 110 = .ok (.goto 4, 3) := e_167 (x := 0) (y := 4) drcX7_steps_1 46 rfl rfl
theorem dX7_steps_113 : decode cX7_steps 113 = .ok (.iconst 0, 1) := dec_3 (gB drcX7_steps_1 49 rfl rfl)
theorem dX7_steps_114 : decode cX7_steps 114 = .ok (.iastore, 1) := dec_79 (gB drcX7_steps_1 50 rfl rfl)
theorem dX7_steps_115 : decode cX7_steps 115 = .ok (.iinc 4 (-1), 3) := e_132 (x := 4) (y := 255) drcX7_steps_1 51 rfl rfl
theorem dX7_steps_118 : decode cX7_steps 118 = .ok (.goto (-105), 3) := e_167 (x := 255) (y := 151) drcX7_steps_1 54 rfl rfl
theorem dX7_steps_121 : decode cX7_steps 121 = .ok (.aload_n 3, 1) := dec_45 (gB drcX7_steps_1 57 rfl rfl)
theorem dX7_steps_122 : decode cX7_steps 122 = .ok (.areturn, 1) := dec_176 (gB drcX7_steps_1 58 rfl rfl)
def lkcX7_undo_0 : List UInt8 := [0x2a, 0x1b, 0xb8, 0x00, 0x21, 0x04, 0xb6, 0x00, 0x33, 0x9a, 0x00, 0x25, 0x2a, 0x1c, 0x1d, 0xb8, 0x00, 0x68, 0x05, 0xb6, 0x00, 0x19, 0x9a, 0x00, 0x18, 0x2a, 0x1c, 0x1d, 0xb8, 0x00, 0x6b, 0x9a, 0x00, 0x07, 0x04, 0xa7, 0x00, 0x04, 0x03, 0x06, 0xb6, 0x00, 0x19, 0x99, 0x00, 0x05, 0x03, 0xac, 0x2a, 0xb4, 0x00, 0x09, 0x1b, 0x32, 0x3a, 0x04, 0x1c, 0xb8, 0x00, 0x37, 0x3a, 0x05, 0x1d, 0xb8]
def lkcX7_undo_1 : List UInt8 := [0x00, 0x37, 0x3a, 0x06, 0x19, 0x04, 0x19, 0x05, 0x19, 0x06, 0xb8, 0x00, 0x6e, 0x3a, 0x07, 0x19, 0x04, 0xbe, 0x9e, 0x00, 0x0f, 0x19, 0x07, 0x03, 0x2e, 0x9a, 0x00, 0x08, 0x2a, 0xb6, 0x00, 0x3f, 0xac, 0x03, 0x36, 0x08, 0x03, 0x36, 0x09, 0x15, 0x09, 0x19, 0x04, 0xbe, 0xa2, 0x00, 0x20, 0x84, 0x08, 0x01, 0x15, 0x09, 0x19, 0x07, 0x15, 0x09, 0x2e, 0x04, 0xa0, 0x00, 0x09, 0x19, 0x05, 0xbe]
def lkcX7_undo_2 : List UInt8 := [0xa7, 0x00, 0x06, 0x19, 0x06, 0xbe, 0x60, 0x36, 0x09, 0xa7, 0xff, 0xde, 0x15, 0x08, 0xbc, 0x0a, 0x3a, 0x09, 0x03, 0x36, 0x0a, 0x03, 0x36, 0x0b, 0x15, 0x0b, 0x19, 0x04, 0xbe, 0xa2, 0x00, 0x2c, 0x19, 0x09, 0x15, 0x0a, 0x84, 0x0a, 0x01, 0x19, 0x07, 0x15, 0x0b, 0x2e, 0x04, 0x64, 0x4f, 0x15, 0x0b, 0x19, 0x07, 0x15, 0x0b, 0x2e, 0x04, 0xa0, 0x00, 0x09, 0x19, 0x05, 0xbe, 0xa7, 0x00, 0x06]
def lkcX7_undo_3 : List UInt8 := [0x19, 0x06, 0xbe, 0x60, 0x36, 0x0b, 0xa7, 0xff, 0xd2, 0x2a, 0x1b, 0x19, 0x09, 0xb6, 0x00, 0x3b, 0xac]
def tkcX7_undo_3 : List UInt8 := lkcX7_undo_3 ++ []
def tkcX7_undo_2 : List UInt8 := lkcX7_undo_2 ++ tkcX7_undo_3
def tkcX7_undo_1 : List UInt8 := lkcX7_undo_1 ++ tkcX7_undo_2
def tkcX7_undo_0 : List UInt8 := lkcX7_undo_0 ++ tkcX7_undo_1
theorem drcX7_undo_0 : (cX7_undo).data.toList.drop 0 = lkcX7_undo_0 ++ tkcX7_undo_1 := by decide +kernel
theorem drcX7_undo_1 : (cX7_undo).data.toList.drop 64 = lkcX7_undo_1 ++ tkcX7_undo_2 := dr_step drcX7_undo_0 rfl
theorem drcX7_undo_2 : (cX7_undo).data.toList.drop 128 = lkcX7_undo_2 ++ tkcX7_undo_3 := dr_step drcX7_undo_1 rfl
theorem drcX7_undo_3 : (cX7_undo).data.toList.drop 192 = lkcX7_undo_3 ++ [] := dr_step drcX7_undo_2 rfl
theorem dX7_undo_0 : decode cX7_undo 0 = .ok (.aload_n 0, 1) := dec_42 (gB drcX7_undo_0 0 rfl rfl)
theorem dX7_undo_1 : decode cX7_undo 1 = .ok (.iload_n 1, 1) := dec_27 (gB drcX7_undo_0 1 rfl rfl)
theorem dX7_undo_2 : decode cX7_undo 2 = .ok (.invokestatic 33, 3) := e_184 (x := 0) (y := 33) drcX7_undo_0 2 rfl rfl
theorem dX7_undo_5 : decode cX7_undo 5 = .ok (.iconst 1, 1) := dec_4 (gB drcX7_undo_0 5 rfl rfl)
theorem dX7_undo_6 : decode cX7_undo 6 = .ok (.invokevirtual 51, 3) := e_182 (x := 0) (y := 51) drcX7_undo_0 6 rfl rfl
theorem dX7_undo_9 : decode cX7_undo 9 = .ok (.ifCond .ne 37, 3) := e_154 (x := 0) (y := 37) drcX7_undo_0 9 rfl rfl
theorem dX7_undo_12 : decode cX7_undo 12 = .ok (.aload_n 0, 1) := dec_42 (gB drcX7_undo_0 12 rfl rfl)
theorem dX7_undo_13 : decode cX7_undo 13 = .ok (.iload_n 2, 1) := dec_28 (gB drcX7_undo_0 13 rfl rfl)
theorem dX7_undo_14 : decode cX7_undo 14 = .ok (.iload_n 3, 1) := dec_29 (gB drcX7_undo_0 14 rfl rfl)
theorem dX7_undo_15 : decode cX7_undo 15 = .ok (.invokestatic 104, 3) := e_184 (x := 0) (y := 104) drcX7_undo_0 15 rfl rfl
theorem dX7_undo_18 : decode cX7_undo 18 = .ok (.iconst 2, 1) := dec_5 (gB drcX7_undo_0 18 rfl rfl)
theorem dX7_undo_19 : decode cX7_undo 19 = .ok (.invokevirtual 25, 3) := e_182 (x := 0) (y := 25) drcX7_undo_0 19 rfl rfl
theorem dX7_undo_22 : decode cX7_undo 22 = .ok (.ifCond .ne 24, 3) := e_154 (x := 0) (y := 24) drcX7_undo_0 22 rfl rfl
theorem dX7_undo_25 : decode cX7_undo 25 = .ok (.aload_n 0, 1) := dec_42 (gB drcX7_undo_0 25 rfl rfl)
theorem dX7_undo_26 : decode cX7_undo 26 = .ok (.iload_n 2, 1) := dec_28 (gB drcX7_undo_0 26 rfl rfl)
theorem dX7_undo_27 : decode cX7_undo 27 = .ok (.iload_n 3, 1) := dec_29 (gB drcX7_undo_0 27 rfl rfl)
theorem dX7_undo_28 : decode cX7_undo 28 = .ok (.invokestatic 107, 3) := e_184 (x := 0) (y := 107) drcX7_undo_0 28 rfl rfl
theorem dX7_undo_31 : decode cX7_undo 31 = .ok (.ifCond .ne 7, 3) := e_154 (x := 0) (y := 7) drcX7_undo_0 31 rfl rfl
theorem dX7_undo_34 : decode cX7_undo 34 = .ok (.iconst 1, 1) := dec_4 (gB drcX7_undo_0 34 rfl rfl)
theorem dX7_undo_35 : decode cX7_undo 35 = .ok (.goto 4, 3) := e_167 (x := 0) (y := 4) drcX7_undo_0 35 rfl rfl
theorem dX7_undo_38 : decode cX7_undo 38 = .ok (.iconst 0, 1) := dec_3 (gB drcX7_undo_0 38 rfl rfl)
theorem dX7_undo_39 : decode cX7_undo 39 = .ok (.iconst 3, 1) := dec_6 (gB drcX7_undo_0 39 rfl rfl)
theorem dX7_undo_40 : decode cX7_undo 40 = .ok (.invokevirtual 25, 3) := e_182 (x := 0) (y := 25) drcX7_undo_0 40 rfl rfl
theorem dX7_undo_43 : decode cX7_undo 43 = .ok (.ifCond .eq 5, 3) := e_153 (x := 0) (y := 5) drcX7_undo_0 43 rfl rfl
theorem dX7_undo_46 : decode cX7_undo 46 = .ok (.iconst 0, 1) := dec_3 (gB drcX7_undo_0 46 rfl rfl)
theorem dX7_undo_47 : decode cX7_undo 47 = .ok (.ireturn, 1) := dec_172 (gB drcX7_undo_0 47 rfl rfl)
theorem dX7_undo_48 : decode cX7_undo 48 = .ok (.aload_n 0, 1) := dec_42 (gB drcX7_undo_0 48 rfl rfl)
theorem dX7_undo_49 : decode cX7_undo 49 = .ok (.getfield 9, 3) := e_180 (x := 0) (y := 9) drcX7_undo_0 49 rfl rfl
theorem dX7_undo_52 : decode cX7_undo 52 = .ok (.iload_n 1, 1) := dec_27 (gB drcX7_undo_0 52 rfl rfl)
theorem dX7_undo_53 : decode cX7_undo 53 = .ok (.aaload, 1) := dec_50 (gB drcX7_undo_0 53 rfl rfl)
theorem dX7_undo_54 : decode cX7_undo 54 = .ok (.astore 4, 2) := e_58 (x := 4) drcX7_undo_0 54 rfl rfl
theorem dX7_undo_56 : decode cX7_undo 56 = .ok (.iload_n 2, 1) := dec_28 (gB drcX7_undo_0 56 rfl rfl)
theorem dX7_undo_57 : decode cX7_undo 57 = .ok (.invokestatic 55, 3) := e_184 (x := 0) (y := 55) drcX7_undo_0 57 rfl rfl
theorem dX7_undo_60 : decode cX7_undo 60 = .ok (.astore 5, 2) := e_58 (x := 5) drcX7_undo_0 60 rfl rfl
theorem dX7_undo_62 : decode cX7_undo 62 = .ok (.iload_n 3, 1) := dec_29 (gB drcX7_undo_0 62 rfl rfl)
theorem dX7_undo_63 : decode cX7_undo 63 = .ok (.invokestatic 55, 3) := dec_184 (a := 0) (b := 55) (gB drcX7_undo_0 63 rfl rfl) (gB drcX7_undo_1 0 rfl rfl) (gB drcX7_undo_1 1 rfl rfl)
theorem dX7_undo_66 : decode cX7_undo 66 = .ok (.astore 6, 2) := e_58 (x := 6) drcX7_undo_1 2 rfl rfl
theorem dX7_undo_68 : decode cX7_undo 68 = .ok (.aload 4, 2) := e_25 (x := 4) drcX7_undo_1 4 rfl rfl
theorem dX7_undo_70 : decode cX7_undo 70 = .ok (.aload 5, 2) := e_25 (x := 5) drcX7_undo_1 6 rfl rfl
theorem dX7_undo_72 : decode cX7_undo 72 = .ok (.aload 6, 2) := e_25 (x := 6) drcX7_undo_1 8 rfl rfl
theorem dX7_undo_74 : decode cX7_undo 74 = .ok (.invokestatic 110, 3) := e_184 (x := 0) (y := 110) drcX7_undo_1 10 rfl rfl
theorem dX7_undo_77 : decode cX7_undo 77 = .ok (.astore 7, 2) := e_58 (x := 7) drcX7_undo_1 13 rfl rfl
theorem dX7_undo_79 : decode cX7_undo 79 = .ok (.aload 4, 2) := e_25 (x := 4) drcX7_undo_1 15 rfl rfl
theorem dX7_undo_81 : decode cX7_undo 81 = .ok (.arraylength, 1) := dec_190 (gB drcX7_undo_1 17 rfl rfl)
theorem dX7_undo_82 : decode cX7_undo 82 = .ok (.ifCond .le 15, 3) := e_158 (x := 0) (y := 15) drcX7_undo_1 18 rfl rfl
theorem dX7_undo_85 : decode cX7_undo 85 = .ok (.aload 7, 2) := e_25 (x := 7) drcX7_undo_1 21 rfl rfl
theorem dX7_undo_87 : decode cX7_undo 87 = .ok (.iconst 0, 1) := dec_3 (gB drcX7_undo_1 23 rfl rfl)
theorem dX7_undo_88 : decode cX7_undo 88 = .ok (.iaload, 1) := dec_46 (gB drcX7_undo_1 24 rfl rfl)
theorem dX7_undo_89 : decode cX7_undo 89 = .ok (.ifCond .ne 8, 3) := e_154 (x := 0) (y := 8) drcX7_undo_1 25 rfl rfl
theorem dX7_undo_92 : decode cX7_undo 92 = .ok (.aload_n 0, 1) := dec_42 (gB drcX7_undo_1 28 rfl rfl)
theorem dX7_undo_93 : decode cX7_undo 93 = .ok (.invokevirtual 63, 3) := e_182 (x := 0) (y := 63) drcX7_undo_1 29 rfl rfl
theorem dX7_undo_96 : decode cX7_undo 96 = .ok (.ireturn, 1) := dec_172 (gB drcX7_undo_1 32 rfl rfl)
theorem dX7_undo_97 : decode cX7_undo 97 = .ok (.iconst 0, 1) := dec_3 (gB drcX7_undo_1 33 rfl rfl)
theorem dX7_undo_98 : decode cX7_undo 98 = .ok (.istore 8, 2) := e_54 (x := 8) drcX7_undo_1 34 rfl rfl
theorem dX7_undo_100 : decode cX7_undo 100 = .ok (.iconst 0, 1) := dec_3 (gB drcX7_undo_1 36 rfl rfl)
theorem dX7_undo_101 : decode cX7_undo 101 = .ok (.istore 9, 2) := e_54 (x := 9) drcX7_undo_1 37 rfl rfl
theorem dX7_undo_103 : decode cX7_undo 103 = .ok (.iload 9, 2) := e_21 (x := 9) drcX7_undo_1 39 rfl rfl
theorem dX7_undo_105 : decode cX7_undo 105 = .ok (.aload 4, 2) := e_25 (x := 4) drcX7_undo_1 41 rfl rfl
theorem dX7_undo_107 : decode cX7_undo 107 = .ok (.arraylength, 1) := dec_190 (gB drcX7_undo_1 43 rfl rfl)
theorem dX7_undo_108 : decode cX7_undo 108 = .ok (.if_icmp .ge 32, 3) := e_162 (x := 0) (y := 32) drcX7_undo_1 44 rfl rfl
theorem dX7_undo_111 : decode cX7_undo 111 = .ok (.iinc 8 1, 3) := e_132 (x := 8) (y := 1) drcX7_undo_1 47 rfl rfl
theorem dX7_undo_114 : decode cX7_undo 114 = .ok (.iload 9, 2) := e_21 (x := 9) drcX7_undo_1 50 rfl rfl
theorem dX7_undo_116 : decode cX7_undo 116 = .ok (.aload 7, 2) := e_25 (x := 7) drcX7_undo_1 52 rfl rfl
theorem dX7_undo_118 : decode cX7_undo 118 = .ok (.iload 9, 2) := e_21 (x := 9) drcX7_undo_1 54 rfl rfl
theorem dX7_undo_120 : decode cX7_undo 120 = .ok (.iaload, 1) := dec_46 (gB drcX7_undo_1 56 rfl rfl)
theorem dX7_undo_121 : decode cX7_undo 121 = .ok (.iconst 1, 1) := dec_4 (gB drcX7_undo_1 57 rfl rfl)
theorem dX7_undo_122 : decode cX7_undo 122 = .ok (.if_icmp .ne 9, 3) := e_160 (x := 0) (y := 9) drcX7_undo_1 58 rfl rfl
theorem dX7_undo_125 : decode cX7_undo 125 = .ok (.aload 5, 2) := e_25 (x := 5) drcX7_undo_1 61 rfl rfl
theorem dX7_undo_127 : decode cX7_undo 127 = .ok (.arraylength, 1) := dec_190 (gB drcX7_undo_1 63 rfl rfl)
theorem dX7_undo_128 : decode cX7_undo 128 = .ok (.goto 6, 3) := e_167 (x := 0) (y := 6) drcX7_undo_2 0 rfl rfl
theorem dX7_undo_131 : decode cX7_undo 131 = .ok (.aload 6, 2) := e_25 (x := 6) drcX7_undo_2 3 rfl rfl
theorem dX7_undo_133 : decode cX7_undo 133 = .ok (.arraylength, 1) := dec_190 (gB drcX7_undo_2 5 rfl rfl)
theorem dX7_undo_134 : decode cX7_undo 134 = .ok (.iadd, 1) := dec_96 (gB drcX7_undo_2 6 rfl rfl)
theorem dX7_undo_135 : decode cX7_undo 135 = .ok (.istore 9, 2) := e_54 (x := 9) drcX7_undo_2 7 rfl rfl
theorem dX7_undo_137 : decode cX7_undo 137 = .ok (.goto (-34), 3) := e_167 (x := 255) (y := 222) drcX7_undo_2 9 rfl rfl
theorem dX7_undo_140 : decode cX7_undo 140 = .ok (.iload 8, 2) := e_21 (x := 8) drcX7_undo_2 12 rfl rfl
theorem dX7_undo_142 : decode cX7_undo 142 = .ok (.newarray .int, 2) := by decide +kernel
theorem dX7_undo_144 : decode cX7_undo 144 = .ok (.astore 9, 2) := e_58 (x := 9) drcX7_undo_2 16 rfl rfl
theorem dX7_undo_146 : decode cX7_undo 146 = .ok (.iconst 0, 1) := dec_3 (gB drcX7_undo_2 18 rfl rfl)
theorem dX7_undo_147 : decode cX7_undo 147 = .ok (.istore 10, 2) := e_54 (x := 10) drcX7_undo_2 19 rfl rfl
theorem dX7_undo_149 : decode cX7_undo 149 = .ok (.iconst 0, 1) := dec_3 (gB drcX7_undo_2 21 rfl rfl)
theorem dX7_undo_150 : decode cX7_undo 150 = .ok (.istore 11, 2) := e_54 (x := 11) drcX7_undo_2 22 rfl rfl
theorem dX7_undo_152 : decode cX7_undo 152 = .ok (.iload 11, 2) := e_21 (x := 11) drcX7_undo_2 24 rfl rfl
theorem dX7_undo_154 : decode cX7_undo 154 = .ok (.aload 4, 2) := e_25 (x := 4) drcX7_undo_2 26 rfl rfl
theorem dX7_undo_156 : decode cX7_undo 156 = .ok (.arraylength, 1) := dec_190 (gB drcX7_undo_2 28 rfl rfl)
theorem dX7_undo_157 : decode cX7_undo 157 = .ok (.if_icmp .ge 44, 3) := e_162 (x := 0) (y := 44) drcX7_undo_2 29 rfl rfl
theorem dX7_undo_160 : decode cX7_undo 160 = .ok (.aload 9, 2) := e_25 (x := 9) drcX7_undo_2 32 rfl rfl
theorem dX7_undo_162 : decode cX7_undo 162 = .ok (.iload 10, 2) := e_21 (x := 10) drcX7_undo_2 34 rfl rfl
theorem dX7_undo_164 : decode cX7_undo 164 = .ok (.iinc 10 1, 3) := e_132 (x := 10) (y := 1) drcX7_undo_2 36 rfl rfl
theorem dX7_undo_167 : decode cX7_undo 167 = .ok (.aload 7, 2) := e_25 (x := 7) drcX7_undo_2 39 rfl rfl
theorem dX7_undo_169 : decode cX7_undo 169 = .ok (.iload 11, 2) := e_21 (x := 11) drcX7_undo_2 41 rfl rfl
theorem dX7_undo_171 : decode cX7_undo 171 = .ok (.iaload, 1) := dec_46 (gB drcX7_undo_2 43 rfl rfl)
theorem dX7_undo_172 : decode cX7_undo 172 = .ok (.iconst 1, 1) := dec_4 (gB drcX7_undo_2 44 rfl rfl)
theorem dX7_undo_173 : decode cX7_undo 173 = .ok (.isub, 1) := dec_100 (gB drcX7_undo_2 45 rfl rfl)
theorem dX7_undo_174 : decode cX7_undo 174 = .ok (.iastore, 1) := dec_79 (gB drcX7_undo_2 46 rfl rfl)
theorem dX7_undo_175 : decode cX7_undo 175 = .ok (.iload 11, 2) := e_21 (x := 11) drcX7_undo_2 47 rfl rfl
theorem dX7_undo_177 : decode cX7_undo 177 = .ok (.aload 7, 2) := e_25 (x := 7) drcX7_undo_2 49 rfl rfl
theorem dX7_undo_179 : decode cX7_undo 179 = .ok (.iload 11, 2) := e_21 (x := 11) drcX7_undo_2 51 rfl rfl
theorem dX7_undo_181 : decode cX7_undo 181 = .ok (.iaload, 1) := dec_46 (gB drcX7_undo_2 53 rfl rfl)
theorem dX7_undo_182 : decode cX7_undo 182 = .ok (.iconst 1, 1) := dec_4 (gB drcX7_undo_2 54 rfl rfl)
theorem dX7_undo_183 : decode cX7_undo 183 = .ok (.if_icmp .ne 9, 3) := e_160 (x := 0) (y := 9) drcX7_undo_2 55 rfl rfl
theorem dX7_undo_186 : decode cX7_undo 186 = .ok (.aload 5, 2) := e_25 (x := 5) drcX7_undo_2 58 rfl rfl
theorem dX7_undo_188 : decode cX7_undo 188 = .ok (.arraylength, 1) := dec_190 (gB drcX7_undo_2 60 rfl rfl)
theorem dX7_undo_189 : decode cX7_undo 189 = .ok (.goto 6, 3) := e_167 (x := 0) (y := 6) drcX7_undo_2 61 rfl rfl
theorem dX7_undo_192 : decode cX7_undo 192 = .ok (.aload 6, 2) := e_25 (x := 6) drcX7_undo_3 0 rfl rfl
theorem dX7_undo_194 : decode cX7_undo 194 = .ok (.arraylength, 1) := dec_190 (gB drcX7_undo_3 2 rfl rfl)
theorem dX7_undo_195 : decode cX7_undo 195 = .ok (.iadd, 1) := dec_96 (gB drcX7_undo_3 3 rfl rfl)
theorem dX7_undo_196 : decode cX7_undo 196 = .ok (.istore 11, 2) := e_54 (x := 11) drcX7_undo_3 4 rfl rfl
theorem dX7_undo_198 : decode cX7_undo 198 = .ok (.goto (-46), 3) := e_167 (x := 255) (y := 210) drcX7_undo_3 6 rfl rfl
theorem dX7_undo_201 : decode cX7_undo 201 = .ok (.aload_n 0, 1) := dec_42 (gB drcX7_undo_3 9 rfl rfl)
theorem dX7_undo_202 : decode cX7_undo 202 = .ok (.iload_n 1, 1) := dec_27 (gB drcX7_undo_3 10 rfl rfl)
theorem dX7_undo_203 : decode cX7_undo 203 = .ok (.aload 9, 2) := e_25 (x := 9) drcX7_undo_3 11 rfl rfl
theorem dX7_undo_205 : decode cX7_undo 205 = .ok (.invokevirtual 59, 3) := e_182 (x := 0) (y := 59) drcX7_undo_3 13 rfl rfl
theorem dX7_undo_208 : decode cX7_undo 208 = .ok (.ireturn, 1) := dec_172 (gB drcX7_undo_3 16 rfl rfl)
def lkcX7_lay_0 : List UInt8 := [0x2a, 0x1b, 0xb8, 0x00, 0x71, 0x9a, 0x00, 0x0a, 0x1c, 0xb8, 0x00, 0x21, 0x99, 0x00, 0x07, 0x04, 0xa7, 0x00, 0x04, 0x03, 0x04, 0xb6, 0x00, 0x33, 0x9a, 0x00, 0x19, 0x2a, 0x1d, 0x03, 0x05, 0xb8, 0x00, 0x1d, 0x9a, 0x00, 0x07, 0x04, 0xa7, 0x00, 0x04, 0x03, 0x05, 0xb6, 0x00, 0x19, 0x99, 0x00, 0x05, 0x03, 0xac, 0x2a, 0x1c, 0x1d, 0x9a, 0x00, 0x0c, 0x2a, 0x1b, 0x03, 0xb6, 0x00, 0x74, 0xa7]
def lkcX7_lay_1 : List UInt8 := [0x00, 0x15, 0x1d, 0x04, 0xa0, 0x00, 0x0b, 0x2a, 0x1b, 0xb6, 0x00, 0x78, 0xa7, 0x00, 0x08, 0x2a, 0x1b, 0xb6, 0x00, 0x7b, 0xb6, 0x00, 0x3b, 0xac]
def tkcX7_lay_1 : List UInt8 := lkcX7_lay_1 ++ []
def tkcX7_lay_0 : List UInt8 := lkcX7_lay_0 ++ tkcX7_lay_1
theorem drcX7_lay_0 : (cX7_lay).data.toList.drop 0 = lkcX7_lay_0 ++ tkcX7_lay_1 := by decide +kernel
theorem drcX7_lay_1 : (cX7_lay).data.toList.drop 64 = lkcX7_lay_1 ++ [] := dr_step drcX7_lay_0 rfl
theorem dX7_lay_0 : decode cX7_lay 0 = .ok (.aload_n 0, 1) := dec_42 (gB drcX7_lay_0 0 rfl rfl)
theorem dX7_lay_1 : decode cX7_lay 1 = .ok (.iload_n 1, 1) := dec_27 (gB drcX7_lay_0 1 rfl rfl)
theorem dX7_lay_2 : decode cX7_lay 2 = .ok (.invokestatic 113, 3) := e_184 (x := 0) (y := 113) drcX7_lay_0 2 rfl rfl
theorem dX7_lay_5 : decode cX7_lay 5 = .ok (.ifCond .ne 10, 3) := e_154 (x := 0) (y := 10) drcX7_lay_0 5 rfl rfl
theorem dX7_lay_8 : decode cX7_lay 8 = .ok (.iload_n 2, 1) := dec_28 (gB drcX7_lay_0 8 rfl rfl)
theorem dX7_lay_9 : decode cX7_lay 9 = .ok (.invokestatic 33, 3) := e_184 (x := 0) (y := 33) drcX7_lay_0 9 rfl rfl
theorem dX7_lay_12 : decode cX7_lay 12 = .ok (.ifCond .eq 7, 3) := e_153 (x := 0) (y := 7) drcX7_lay_0 12 rfl rfl
theorem dX7_lay_15 : decode cX7_lay 15 = .ok (.iconst 1, 1) := dec_4 (gB drcX7_lay_0 15 rfl rfl)
theorem dX7_lay_16 : decode cX7_lay 16 = .ok (.goto 4, 3) := e_167 (x := 0) (y := 4) drcX7_lay_0 16 rfl rfl
theorem dX7_lay_19 : decode cX7_lay 19 = .ok (.iconst 0, 1) := dec_3 (gB drcX7_lay_0 19 rfl rfl)
theorem dX7_lay_20 : decode cX7_lay 20 = .ok (.iconst 1, 1) := dec_4 (gB drcX7_lay_0 20 rfl rfl)
theorem dX7_lay_21 : decode cX7_lay 21 = .ok (.invokevirtual 51, 3) := e_182 (x := 0) (y := 51) drcX7_lay_0 21 rfl rfl
theorem dX7_lay_24 : decode cX7_lay 24 = .ok (.ifCond .ne 25, 3) := e_154 (x := 0) (y := 25) drcX7_lay_0 24 rfl rfl
theorem dX7_lay_27 : decode cX7_lay 27 = .ok (.aload_n 0, 1) := dec_42 (gB drcX7_lay_0 27 rfl rfl)
theorem dX7_lay_28 : decode cX7_lay 28 = .ok (.iload_n 3, 1) := dec_29 (gB drcX7_lay_0 28 rfl rfl)
theorem dX7_lay_29 : decode cX7_lay 29 = .ok (.iconst 0, 1) := dec_3 (gB drcX7_lay_0 29 rfl rfl)
theorem dX7_lay_30 : decode cX7_lay 30 = .ok (.iconst 2, 1) := dec_5 (gB drcX7_lay_0 30 rfl rfl)
theorem dX7_lay_31 : decode cX7_lay 31 = .ok (.invokestatic 29, 3) := e_184 (x := 0) (y := 29) drcX7_lay_0 31 rfl rfl
theorem dX7_lay_34 : decode cX7_lay 34 = .ok (.ifCond .ne 7, 3) := e_154 (x := 0) (y := 7) drcX7_lay_0 34 rfl rfl
theorem dX7_lay_37 : decode cX7_lay 37 = .ok (.iconst 1, 1) := dec_4 (gB drcX7_lay_0 37 rfl rfl)
theorem dX7_lay_38 : decode cX7_lay 38 = .ok (.goto 4, 3) := e_167 (x := 0) (y := 4) drcX7_lay_0 38 rfl rfl
theorem dX7_lay_41 : decode cX7_lay 41 = .ok (.iconst 0, 1) := dec_3 (gB drcX7_lay_0 41 rfl rfl)
theorem dX7_lay_42 : decode cX7_lay 42 = .ok (.iconst 2, 1) := dec_5 (gB drcX7_lay_0 42 rfl rfl)
theorem dX7_lay_43 : decode cX7_lay 43 = .ok (.invokevirtual 25, 3) := e_182 (x := 0) (y := 25) drcX7_lay_0 43 rfl rfl
theorem dX7_lay_46 : decode cX7_lay 46 = .ok (.ifCond .eq 5, 3) := e_153 (x := 0) (y := 5) drcX7_lay_0 46 rfl rfl
theorem dX7_lay_49 : decode cX7_lay 49 = .ok (.iconst 0, 1) := dec_3 (gB drcX7_lay_0 49 rfl rfl)
theorem dX7_lay_50 : decode cX7_lay 50 = .ok (.ireturn, 1) := dec_172 (gB drcX7_lay_0 50 rfl rfl)
theorem dX7_lay_51 : decode cX7_lay 51 = .ok (.aload_n 0, 1) := dec_42 (gB drcX7_lay_0 51 rfl rfl)
theorem dX7_lay_52 : decode cX7_lay 52 = .ok (.iload_n 2, 1) := dec_28 (gB drcX7_lay_0 52 rfl rfl)
theorem dX7_lay_53 : decode cX7_lay 53 = .ok (.iload_n 3, 1) := dec_29 (gB drcX7_lay_0 53 rfl rfl)
theorem dX7_lay_54 : decode cX7_lay 54 = .ok (.ifCond .ne 12, 3) := e_154 (x := 0) (y := 12) drcX7_lay_0 54 rfl rfl
theorem dX7_lay_57 : decode cX7_lay 57 = .ok (.aload_n 0, 1) := dec_42 (gB drcX7_lay_0 57 rfl rfl)
theorem dX7_lay_58 : decode cX7_lay 58 = .ok (.iload_n 1, 1) := dec_27 (gB drcX7_lay_0 58 rfl rfl)
theorem dX7_lay_59 : decode cX7_lay 59 = .ok (.iconst 0, 1) := dec_3 (gB drcX7_lay_0 59 rfl rfl)
theorem dX7_lay_60 : decode cX7_lay 60 = .ok (.invokevirtual 116, 3) := e_182 (x := 0) (y := 116) drcX7_lay_0 60 rfl rfl
theorem dX7_lay_63 : decode cX7_lay 63 = .ok (.goto 21, 3) := dec_167 (a := 0) (b := 21) (gB drcX7_lay_0 63 rfl rfl) (gB drcX7_lay_1 0 rfl rfl) (gB drcX7_lay_1 1 rfl rfl)
theorem dX7_lay_66 : decode cX7_lay 66 = .ok (.iload_n 3, 1) := dec_29 (gB drcX7_lay_1 2 rfl rfl)
theorem dX7_lay_67 : decode cX7_lay 67 = .ok (.iconst 1, 1) := dec_4 (gB drcX7_lay_1 3 rfl rfl)
theorem dX7_lay_68 : decode cX7_lay 68 = .ok (.if_icmp .ne 11, 3) := e_160 (x := 0) (y := 11) drcX7_lay_1 4 rfl rfl
theorem dX7_lay_71 : decode cX7_lay 71 = .ok (.aload_n 0, 1) := dec_42 (gB drcX7_lay_1 7 rfl rfl)
theorem dX7_lay_72 : decode cX7_lay 72 = .ok (.iload_n 1, 1) := dec_27 (gB drcX7_lay_1 8 rfl rfl)
theorem dX7_lay_73 : decode cX7_lay 73 = .ok (.invokevirtual 120, 3) := e_182 (x := 0) (y := 120) drcX7_lay_1 9 rfl rfl
theorem dX7_lay_76 : decode cX7_lay 76 = .ok (.goto 8, 3) := e_167 (x := 0) (y := 8) drcX7_lay_1 12 rfl rfl
theorem dX7_lay_79 : decode cX7_lay 79 = .ok (.aload_n 0, 1) := dec_42 (gB drcX7_lay_1 15 rfl rfl)
theorem dX7_lay_80 : decode cX7_lay 80 = .ok (.iload_n 1, 1) := dec_27 (gB drcX7_lay_1 16 rfl rfl)
theorem dX7_lay_81 : decode cX7_lay 81 = .ok (.invokevirtual 123, 3) := e_182 (x := 0) (y := 123) drcX7_lay_1 17 rfl rfl
theorem dX7_lay_84 : decode cX7_lay 84 = .ok (.invokevirtual 59, 3) := e_182 (x := 0) (y := 59) drcX7_lay_1 20 rfl rfl
theorem dX7_lay_87 : decode cX7_lay 87 = .ok (.ireturn, 1) := dec_172 (gB drcX7_lay_1 23 rfl rfl)
def lkcX7_twosOf_0 : List UInt8 := [0x04, 0xbc, 0x0a, 0x59, 0x03, 0x03, 0x4f, 0x4d, 0x1b, 0x05, 0xa2, 0x00, 0x45, 0x03, 0x3e, 0x1d, 0x1a, 0xa2, 0x00, 0x3c, 0x2c, 0x04, 0xbc, 0x0a, 0x59, 0x03, 0x04, 0x4f, 0x04, 0xbc, 0x0a, 0x59, 0x03, 0x03, 0x4f, 0xb8, 0x00, 0x64, 0x3a, 0x04, 0x1b, 0x9a, 0x00, 0x13, 0x2c, 0x08, 0xb8, 0x00, 0x37, 0x10, 0x06, 0xb8, 0x00, 0x37, 0xb8, 0x00, 0x64, 0xa7, 0x00, 0x0d, 0x2c, 0x2c, 0xbe, 0x2c]
def lkcX7_twosOf_1 : List UInt8 := [0xbe, 0x19, 0x04, 0xb8, 0x00, 0x43, 0x4d, 0x84, 0x03, 0x01, 0xa7, 0xff, 0xc5, 0x2c, 0xb0, 0x04, 0x1a, 0x78, 0xbc, 0x0a, 0x4d, 0x03, 0x3e, 0x1d, 0x2c, 0xbe, 0xa2, 0x00, 0x25, 0x1d, 0x36, 0x04, 0x15, 0x04, 0x9e, 0x00, 0x17, 0x2c, 0x1d, 0x2c, 0x1d, 0x2e, 0x15, 0x04, 0x60, 0x05, 0x70, 0x4f, 0x15, 0x04, 0x05, 0x6c, 0x36, 0x04, 0xa7, 0xff, 0xea, 0x84, 0x03, 0x01, 0xa7, 0xff, 0xdb, 0x2c]
def lkcX7_twosOf_2 : List UInt8 := [0xb0]
def tkcX7_twosOf_2 : List UInt8 := lkcX7_twosOf_2 ++ []
def tkcX7_twosOf_1 : List UInt8 := lkcX7_twosOf_1 ++ tkcX7_twosOf_2
def tkcX7_twosOf_0 : List UInt8 := lkcX7_twosOf_0 ++ tkcX7_twosOf_1
theorem drcX7_twosOf_0 : (cX7_twosOf).data.toList.drop 0 = lkcX7_twosOf_0 ++ tkcX7_twosOf_1 := by decide +kernel
theorem drcX7_twosOf_1 : (cX7_twosOf).data.toList.drop 64 = lkcX7_twosOf_1 ++ tkcX7_twosOf_2 := dr_step drcX7_twosOf_0 rfl
theorem drcX7_twosOf_2 : (cX7_twosOf).data.toList.drop 128 = lkcX7_twosOf_2 ++ [] := dr_step drcX7_twosOf_1 rfl
theorem dX7_twosOf_0 : decode cX7_twosOf 0 = .ok (.iconst 1, 1) := dec_4 (gB drcX7_twosOf_0 0 rfl rfl)
theorem dX7_twosOf_1 : decode cX7_twosOf 1 = .ok (.newarray .int, 2) := by decide +kernel
theorem dX7_twosOf_3 : decode cX7_twosOf 3 = .ok (.dup, 1) := dec_89 (gB drcX7_twosOf_0 3 rfl rfl)
theorem dX7_twosOf_4 : decode cX7_twosOf 4 = .ok (.iconst 0, 1) := dec_3 (gB drcX7_twosOf_0 4 rfl rfl)
theorem dX7_twosOf_5 : decode cX7_twosOf 5 = .ok (.iconst 0, 1) := dec_3 (gB drcX7_twosOf_0 5 rfl rfl)
theorem dX7_twosOf_6 : decode cX7_twosOf 6 = .ok (.iastore, 1) := dec_79 (gB drcX7_twosOf_0 6 rfl rfl)
theorem dX7_twosOf_7 : decode cX7_twosOf 7 = .ok (.astore_n 2, 1) := dec_77 (gB drcX7_twosOf_0 7 rfl rfl)
theorem dX7_twosOf_8 : decode cX7_twosOf 8 = .ok (.iload_n 1, 1) := dec_27 (gB drcX7_twosOf_0 8 rfl rfl)
theorem dX7_twosOf_9 : decode cX7_twosOf 9 = .ok (.iconst 2, 1) := dec_5 (gB drcX7_twosOf_0 9 rfl rfl)
theorem dX7_twosOf_10 : decode cX7_twosOf 10 = .ok (.if_icmp .ge 69, 3) := e_162 (x := 0) (y := 69) drcX7_twosOf_0 10 rfl rfl
theorem dX7_twosOf_13 : decode cX7_twosOf 13 = .ok (.iconst 0, 1) := dec_3 (gB drcX7_twosOf_0 13 rfl rfl)
theorem dX7_twosOf_14 : decode cX7_twosOf 14 = .ok (.istore_n 3, 1) := dec_62 (gB drcX7_twosOf_0 14 rfl rfl)
theorem dX7_twosOf_15 : decode cX7_twosOf 15 = .ok (.iload_n 3, 1) := dec_29 (gB drcX7_twosOf_0 15 rfl rfl)
theorem dX7_twosOf_16 : decode cX7_twosOf 16 = .ok (.iload_n 0, 1) := dec_26 (gB drcX7_twosOf_0 16 rfl rfl)
theorem dX7_twosOf_17 : decode cX7_twosOf 17 = .ok (.if_icmp .ge 60, 3) := e_162 (x := 0) (y := 60) drcX7_twosOf_0 17 rfl rfl
theorem dX7_twosOf_20 : decode cX7_twosOf 20 = .ok (.aload_n 2, 1) := dec_44 (gB drcX7_twosOf_0 20 rfl rfl)
theorem dX7_twosOf_21 : decode cX7_twosOf 21 = .ok (.iconst 1, 1) := dec_4 (gB drcX7_twosOf_0 21 rfl rfl)
theorem dX7_twosOf_22 : decode cX7_twosOf 22 = .ok (.newarray .int, 2) := by decide +kernel
theorem dX7_twosOf_24 : decode cX7_twosOf 24 = .ok (.dup, 1) := dec_89 (gB drcX7_twosOf_0 24 rfl rfl)
theorem dX7_twosOf_25 : decode cX7_twosOf 25 = .ok (.iconst 0, 1) := dec_3 (gB drcX7_twosOf_0 25 rfl rfl)
theorem dX7_twosOf_26 : decode cX7_twosOf 26 = .ok (.iconst 1, 1) := dec_4 (gB drcX7_twosOf_0 26 rfl rfl)
theorem dX7_twosOf_27 : decode cX7_twosOf 27 = .ok (.iastore, 1) := dec_79 (gB drcX7_twosOf_0 27 rfl rfl)
theorem dX7_twosOf_28 : decode cX7_twosOf 28 = .ok (.iconst 1, 1) := dec_4 (gB drcX7_twosOf_0 28 rfl rfl)
theorem dX7_twosOf_29 : decode cX7_twosOf 29 = .ok (.newarray .int, 2) := by decide +kernel
theorem dX7_twosOf_31 : decode cX7_twosOf 31 = .ok (.dup, 1) := dec_89 (gB drcX7_twosOf_0 31 rfl rfl)
theorem dX7_twosOf_32 : decode cX7_twosOf 32 = .ok (.iconst 0, 1) := dec_3 (gB drcX7_twosOf_0 32 rfl rfl)
theorem dX7_twosOf_33 : decode cX7_twosOf 33 = .ok (.iconst 0, 1) := dec_3 (gB drcX7_twosOf_0 33 rfl rfl)
theorem dX7_twosOf_34 : decode cX7_twosOf 34 = .ok (.iastore, 1) := dec_79 (gB drcX7_twosOf_0 34 rfl rfl)
theorem dX7_twosOf_35 : decode cX7_twosOf 35 = .ok (.invokestatic 100, 3) := e_184 (x := 0) (y := 100) drcX7_twosOf_0 35 rfl rfl
theorem dX7_twosOf_38 : decode cX7_twosOf 38 = .ok (.astore 4, 2) := e_58 (x := 4) drcX7_twosOf_0 38 rfl rfl
theorem dX7_twosOf_40 : decode cX7_twosOf 40 = .ok (.iload_n 1, 1) := dec_27 (gB drcX7_twosOf_0 40 rfl rfl)
theorem dX7_twosOf_41 : decode cX7_twosOf 41 = .ok (.ifCond .ne 19, 3) := e_154 (x := 0) (y := 19) drcX7_twosOf_0 41 rfl rfl
theorem dX7_twosOf_44 : decode cX7_twosOf 44 = .ok (.aload_n 2, 1) := dec_44 (gB drcX7_twosOf_0 44 rfl rfl)
theorem dX7_twosOf_45 : decode cX7_twosOf 45 = .ok (.iconst 5, 1) := dec_8 (gB drcX7_twosOf_0 45 rfl rfl)
theorem dX7_twosOf_46 : decode cX7_twosOf 46 = .ok (.invokestatic 55, 3) := e_184 (x := 0) (y := 55) drcX7_twosOf_0 46 rfl rfl
theorem dX7_twosOf_49 : decode cX7_twosOf 49 = .ok (.bipush 6, 2) := e_16 (x := 6) drcX7_twosOf_0 49 rfl rfl
theorem dX7_twosOf_51 : decode cX7_twosOf 51 = .ok (.invokestatic 55, 3) := e_184 (x := 0) (y := 55) drcX7_twosOf_0 51 rfl rfl
theorem dX7_twosOf_54 : decode cX7_twosOf 54 = .ok (.invokestatic 100, 3) := e_184 (x := 0) (y := 100) drcX7_twosOf_0 54 rfl rfl
theorem dX7_twosOf_57 : decode cX7_twosOf 57 = .ok (.goto 13, 3) := e_167 (x := 0) (y := 13) drcX7_twosOf_0 57 rfl rfl
theorem dX7_twosOf_60 : decode cX7_twosOf 60 = .ok (.aload_n 2, 1) := dec_44 (gB drcX7_twosOf_0 60 rfl rfl)
theorem dX7_twosOf_61 : decode cX7_twosOf 61 = .ok (.aload_n 2, 1) := dec_44 (gB drcX7_twosOf_0 61 rfl rfl)
theorem dX7_twosOf_62 : decode cX7_twosOf 62 = .ok (.arraylength, 1) := dec_190 (gB drcX7_twosOf_0 62 rfl rfl)
theorem dX7_twosOf_63 : decode cX7_twosOf 63 = .ok (.aload_n 2, 1) := dec_44 (gB drcX7_twosOf_0 63 rfl rfl)
theorem dX7_twosOf_64 : decode cX7_twosOf 64 = .ok (.arraylength, 1) := dec_190 (gB drcX7_twosOf_1 0 rfl rfl)
theorem dX7_twosOf_65 : decode cX7_twosOf 65 = .ok (.aload 4, 2) := e_25 (x := 4) drcX7_twosOf_1 1 rfl rfl
theorem dX7_twosOf_67 : decode cX7_twosOf 67 = .ok (.invokestatic 67, 3) := e_184 (x := 0) (y := 67) drcX7_twosOf_1 3 rfl rfl
theorem dX7_twosOf_70 : decode cX7_twosOf 70 = .ok (.astore_n 2, 1) := dec_77 (gB drcX7_twosOf_1 6 rfl rfl)
theorem dX7_twosOf_71 : decode cX7_twosOf 71 = .ok (.iinc 3 1, 3) := e_132 (x := 3) (y := 1) drcX7_twosOf_1 7 rfl rfl
theorem dX7_twosOf_74 : decode cX7_twosOf 74 = .ok (.goto (-59), 3) := e_167 (x := 255) (y := 197) drcX7_twosOf_1 10 rfl rfl
theorem dX7_twosOf_77 : decode cX7_twosOf 77 = .ok (.aload_n 2, 1) := dec_44 (gB drcX7_twosOf_1 13 rfl rfl)
theorem dX7_twosOf_78 : decode cX7_twosOf 78 = .ok (.areturn, 1) := dec_176 (gB drcX7_twosOf_1 14 rfl rfl)
theorem dX7_twosOf_79 : decode cX7_twosOf 79 = .ok (.iconst 1, 1) := dec_4 (gB drcX7_twosOf_1 15 rfl rfl)
theorem dX7_twosOf_80 : decode cX7_twosOf 80 = .ok (.iload_n 0, 1) := dec_26 (gB drcX7_twosOf_1 16 rfl rfl)
theorem dX7_twosOf_81 : decode cX7_twosOf 81 = .ok (.ishl, 1) := dec_120 (gB drcX7_twosOf_1 17 rfl rfl)
theorem dX7_twosOf_82 : decode cX7_twosOf 82 = .ok (.newarray .int, 2) := by decide +kernel
theorem dX7_twosOf_84 : decode cX7_twosOf 84 = .ok (.astore_n 2, 1) := dec_77 (gB drcX7_twosOf_1 20 rfl rfl)
theorem dX7_twosOf_85 : decode cX7_twosOf 85 = .ok (.iconst 0, 1) := dec_3 (gB drcX7_twosOf_1 21 rfl rfl)
theorem dX7_twosOf_86 : decode cX7_twosOf 86 = .ok (.istore_n 3, 1) := dec_62 (gB drcX7_twosOf_1 22 rfl rfl)
theorem dX7_twosOf_87 : decode cX7_twosOf 87 = .ok (.iload_n 3, 1) := dec_29 (gB drcX7_twosOf_1 23 rfl rfl)
theorem dX7_twosOf_88 : decode cX7_twosOf 88 = .ok (.aload_n 2, 1) := dec_44 (gB drcX7_twosOf_1 24 rfl rfl)
theorem dX7_twosOf_89 : decode cX7_twosOf 89 = .ok (.arraylength, 1) := dec_190 (gB drcX7_twosOf_1 25 rfl rfl)
theorem dX7_twosOf_90 : decode cX7_twosOf 90 = .ok (.if_icmp .ge 37, 3) := e_162 (x := 0) (y := 37) drcX7_twosOf_1 26 rfl rfl
theorem dX7_twosOf_93 : decode cX7_twosOf 93 = .ok (.iload_n 3, 1) := dec_29 (gB drcX7_twosOf_1 29 rfl rfl)
theorem dX7_twosOf_94 : decode cX7_twosOf 94 = .ok (.istore 4, 2) := e_54 (x := 4) drcX7_twosOf_1 30 rfl rfl
theorem dX7_twosOf_96 : decode cX7_twosOf 96 = .ok (.iload 4, 2) := e_21 (x := 4) drcX7_twosOf_1 32 rfl rfl
theorem dX7_twosOf_98 : decode cX7_twosOf 98 = .ok (.ifCond .le 23, 3) := e_158 (x := 0) (y := 23) drcX7_twosOf_1 34 rfl rfl
theorem dX7_twosOf_101 : decode cX7_twosOf 101 = .ok (.aload_n 2, 1) := dec_44 (gB drcX7_twosOf_1 37 rfl rfl)
theorem dX7_twosOf_102 : decode cX7_twosOf 102 = .ok (.iload_n 3, 1) := dec_29 (gB drcX7_twosOf_1 38 rfl rfl)
theorem dX7_twosOf_103 : decode cX7_twosOf 103 = .ok (.aload_n 2, 1) := dec_44 (gB drcX7_twosOf_1 39 rfl rfl)
theorem dX7_twosOf_104 : decode cX7_twosOf 104 = .ok (.iload_n 3, 1) := dec_29 (gB drcX7_twosOf_1 40 rfl rfl)
theorem dX7_twosOf_105 : decode cX7_twosOf 105 = .ok (.iaload, 1) := dec_46 (gB drcX7_twosOf_1 41 rfl rfl)
theorem dX7_twosOf_106 : decode cX7_twosOf 106 = .ok (.iload 4, 2) := e_21 (x := 4) drcX7_twosOf_1 42 rfl rfl
theorem dX7_twosOf_108 : decode cX7_twosOf 108 = .ok (.iadd, 1) := dec_96 (gB drcX7_twosOf_1 44 rfl rfl)
theorem dX7_twosOf_109 : decode cX7_twosOf 109 = .ok (.iconst 2, 1) := dec_5 (gB drcX7_twosOf_1 45 rfl rfl)
theorem dX7_twosOf_110 : decode cX7_twosOf 110 = .ok (.irem, 1) := dec_112 (gB drcX7_twosOf_1 46 rfl rfl)
theorem dX7_twosOf_111 : decode cX7_twosOf 111 = .ok (.iastore, 1) := dec_79 (gB drcX7_twosOf_1 47 rfl rfl)
theorem dX7_twosOf_112 : decode cX7_twosOf 112 = .ok (.iload 4, 2) := e_21 (x := 4) drcX7_twosOf_1 48 rfl rfl
theorem dX7_twosOf_114 : decode cX7_twosOf 114 = .ok (.iconst 2, 1) := dec_5 (gB drcX7_twosOf_1 50 rfl rfl)
theorem dX7_twosOf_115 : decode cX7_twosOf 115 = .ok (.idiv, 1) := dec_108 (gB drcX7_twosOf_1 51 rfl rfl)
theorem dX7_twosOf_116 : decode cX7_twosOf 116 = .ok (.istore 4, 2) := e_54 (x := 4) drcX7_twosOf_1 52 rfl rfl
theorem dX7_twosOf_118 : decode cX7_twosOf 118 = .ok (.goto (-22), 3) := e_167 (x := 255) (y := 234) drcX7_twosOf_1 54 rfl rfl
theorem dX7_twosOf_121 : decode cX7_twosOf 121 = .ok (.iinc 3 1, 3) := e_132 (x := 3) (y := 1) drcX7_twosOf_1 57 rfl rfl
theorem dX7_twosOf_124 : decode cX7_twosOf 124 = .ok (.goto (-37), 3) := e_167 (x := 255) (y := 219) drcX7_twosOf_1 60 rfl rfl
theorem dX7_twosOf_127 : decode cX7_twosOf 127 = .ok (.aload_n 2, 1) := dec_44 (gB drcX7_twosOf_1 63 rfl rfl)
theorem dX7_twosOf_128 : decode cX7_twosOf 128 = .ok (.areturn, 1) := dec_176 (gB drcX7_twosOf_2 0 rfl rfl)
def lkcX7_twos_0 : List UInt8 := [0x2a, 0x1b, 0xb8, 0x00, 0x21, 0x04, 0xb6, 0x00, 0x33, 0x9a, 0x00, 0x23, 0x2a, 0x1c, 0x03, 0x10, 0x06, 0xb8, 0x00, 0x1d, 0x99, 0x00, 0x0c, 0x1d, 0x03, 0x05, 0xb8, 0x00, 0x1d, 0x9a, 0x00, 0x07, 0x04, 0xa7, 0x00, 0x04, 0x03, 0x05, 0xb6, 0x00, 0x19, 0x99, 0x00, 0x05, 0x03, 0xac, 0x2a, 0x1b, 0x1c, 0x1d, 0xb8, 0x00, 0x7e, 0xb6, 0x00, 0x3b, 0xac]
def tkcX7_twos_0 : List UInt8 := lkcX7_twos_0 ++ []
theorem drcX7_twos_0 : (cX7_twos).data.toList.drop 0 = lkcX7_twos_0 ++ [] := by decide +kernel
theorem dX7_twos_0 : decode cX7_twos 0 = .ok (.aload_n 0, 1) := dec_42 (gB drcX7_twos_0 0 rfl rfl)
theorem dX7_twos_1 : decode cX7_twos 1 = .ok (.iload_n 1, 1) := dec_27 (gB drcX7_twos_0 1 rfl rfl)
theorem dX7_twos_2 : decode cX7_twos 2 = .ok (.invokestatic 33, 3) := e_184 (x := 0) (y := 33) drcX7_twos_0 2 rfl rfl
theorem dX7_twos_5 : decode cX7_twos 5 = .ok (.iconst 1, 1) := dec_4 (gB drcX7_twos_0 5 rfl rfl)
theorem dX7_twos_6 : decode cX7_twos 6 = .ok (.invokevirtual 51, 3) := e_182 (x := 0) (y := 51) drcX7_twos_0 6 rfl rfl
theorem dX7_twos_9 : decode cX7_twos 9 = .ok (.ifCond .ne 35, 3) := e_154 (x := 0) (y := 35) drcX7_twos_0 9 rfl rfl
theorem dX7_twos_12 : decode cX7_twos 12 = .ok (.aload_n 0, 1) := dec_42 (gB drcX7_twos_0 12 rfl rfl)
theorem dX7_twos_13 : decode cX7_twos 13 = .ok (.iload_n 2, 1) := dec_28 (gB drcX7_twos_0 13 rfl rfl)
theorem dX7_twos_14 : decode cX7_twos 14 = .ok (.iconst 0, 1) := dec_3 (gB drcX7_twos_0 14 rfl rfl)
theorem dX7_twos_15 : decode cX7_twos 15 = .ok (.bipush 6, 2) := e_16 (x := 6) drcX7_twos_0 15 rfl rfl
theorem dX7_twos_17 : decode cX7_twos 17 = .ok (.invokestatic 29, 3) := e_184 (x := 0) (y := 29) drcX7_twos_0 17 rfl rfl
theorem dX7_twos_20 : decode cX7_twos 20 = .ok (.ifCond .eq 12, 3) := e_153 (x := 0) (y := 12) drcX7_twos_0 20 rfl rfl
theorem dX7_twos_23 : decode cX7_twos 23 = .ok (.iload_n 3, 1) := dec_29 (gB drcX7_twos_0 23 rfl rfl)
theorem dX7_twos_24 : decode cX7_twos 24 = .ok (.iconst 0, 1) := dec_3 (gB drcX7_twos_0 24 rfl rfl)
theorem dX7_twos_25 : decode cX7_twos 25 = .ok (.iconst 2, 1) := dec_5 (gB drcX7_twos_0 25 rfl rfl)
theorem dX7_twos_26 : decode cX7_twos 26 = .ok (.invokestatic 29, 3) := e_184 (x := 0) (y := 29) drcX7_twos_0 26 rfl rfl
theorem dX7_twos_29 : decode cX7_twos 29 = .ok (.ifCond .ne 7, 3) := e_154 (x := 0) (y := 7) drcX7_twos_0 29 rfl rfl
theorem dX7_twos_32 : decode cX7_twos 32 = .ok (.iconst 1, 1) := dec_4 (gB drcX7_twos_0 32 rfl rfl)
theorem dX7_twos_33 : decode cX7_twos 33 = .ok (.goto 4, 3) := e_167 (x := 0) (y := 4) drcX7_twos_0 33 rfl rfl
theorem dX7_twos_36 : decode cX7_twos 36 = .ok (.iconst 0, 1) := dec_3 (gB drcX7_twos_0 36 rfl rfl)
theorem dX7_twos_37 : decode cX7_twos 37 = .ok (.iconst 2, 1) := dec_5 (gB drcX7_twos_0 37 rfl rfl)
theorem dX7_twos_38 : decode cX7_twos 38 = .ok (.invokevirtual 25, 3) := e_182 (x := 0) (y := 25) drcX7_twos_0 38 rfl rfl
theorem dX7_twos_41 : decode cX7_twos 41 = .ok (.ifCond .eq 5, 3) := e_153 (x := 0) (y := 5) drcX7_twos_0 41 rfl rfl
theorem dX7_twos_44 : decode cX7_twos 44 = .ok (.iconst 0, 1) := dec_3 (gB drcX7_twos_0 44 rfl rfl)
theorem dX7_twos_45 : decode cX7_twos 45 = .ok (.ireturn, 1) := dec_172 (gB drcX7_twos_0 45 rfl rfl)
theorem dX7_twos_46 : decode cX7_twos 46 = .ok (.aload_n 0, 1) := dec_42 (gB drcX7_twos_0 46 rfl rfl)
theorem dX7_twos_47 : decode cX7_twos 47 = .ok (.iload_n 1, 1) := dec_27 (gB drcX7_twos_0 47 rfl rfl)
theorem dX7_twos_48 : decode cX7_twos 48 = .ok (.iload_n 2, 1) := dec_28 (gB drcX7_twos_0 48 rfl rfl)
theorem dX7_twos_49 : decode cX7_twos 49 = .ok (.iload_n 3, 1) := dec_29 (gB drcX7_twos_0 49 rfl rfl)
theorem dX7_twos_50 : decode cX7_twos 50 = .ok (.invokestatic 126, 3) := e_184 (x := 0) (y := 126) drcX7_twos_0 50 rfl rfl
theorem dX7_twos_53 : decode cX7_twos 53 = .ok (.invokevirtual 59, 3) := e_182 (x := 0) (y := 59) drcX7_twos_0 53 rfl rfl
theorem dX7_twos_56 : decode cX7_twos 56 = .ok (.ireturn, 1) := dec_172 (gB drcX7_twos_0 56 rfl rfl)
def lkcX7_lineSign_0 : List UInt8 := [0x1d, 0x1b, 0x68, 0x1c, 0x60, 0x1a, 0x70, 0x1b, 0x60, 0x1a, 0xa1, 0x00, 0x07, 0x04, 0xa7, 0x00, 0x04, 0x03, 0xb8, 0x00, 0x4f, 0xac]
def tkcX7_lineSign_0 : List UInt8 := lkcX7_lineSign_0 ++ []
theorem drcX7_lineSign_0 : (cX7_lineSign).data.toList.drop 0 = lkcX7_lineSign_0 ++ [] := by decide +kernel
theorem dX7_lineSign_0 : decode cX7_lineSign 0 = .ok (.iload_n 3, 1) := dec_29 (gB drcX7_lineSign_0 0 rfl rfl)
theorem dX7_lineSign_1 : decode cX7_lineSign 1 = .ok (.iload_n 1, 1) := dec_27 (gB drcX7_lineSign_0 1 rfl rfl)
theorem dX7_lineSign_2 : decode cX7_lineSign 2 = .ok (.imul, 1) := dec_104 (gB drcX7_lineSign_0 2 rfl rfl)
theorem dX7_lineSign_3 : decode cX7_lineSign 3 = .ok (.iload_n 2, 1) := dec_28 (gB drcX7_lineSign_0 3 rfl rfl)
theorem dX7_lineSign_4 : decode cX7_lineSign 4 = .ok (.iadd, 1) := dec_96 (gB drcX7_lineSign_0 4 rfl rfl)
theorem dX7_lineSign_5 : decode cX7_lineSign 5 = .ok (.iload_n 0, 1) := dec_26 (gB drcX7_lineSign_0 5 rfl rfl)
theorem dX7_lineSign_6 : decode cX7_lineSign 6 = .ok (.irem, 1) := dec_112 (gB drcX7_lineSign_0 6 rfl rfl)
theorem dX7_lineSign_7 : decode cX7_lineSign 7 = .ok (.iload_n 1, 1) := dec_27 (gB drcX7_lineSign_0 7 rfl rfl)
theorem dX7_lineSign_8 : decode cX7_lineSign 8 = .ok (.iadd, 1) := dec_96 (gB drcX7_lineSign_0 8 rfl rfl)
theorem dX7_lineSign_9 : decode cX7_lineSign 9 = .ok (.iload_n 0, 1) := dec_26 (gB drcX7_lineSign_0 9 rfl rfl)
theorem dX7_lineSign_10 : decode cX7_lineSign 10 = .ok (.if_icmp .lt 7, 3) := e_161 (x := 0) (y := 7) drcX7_lineSign_0 10 rfl rfl
theorem dX7_lineSign_13 : decode cX7_lineSign 13 = .ok (.iconst 1, 1) := dec_4 (gB drcX7_lineSign_0 13 rfl rfl)
theorem dX7_lineSign_14 : decode cX7_lineSign 14 = .ok (.goto 4, 3) := e_167 (x := 0) (y := 4) drcX7_lineSign_0 14 rfl rfl
theorem dX7_lineSign_17 : decode cX7_lineSign 17 = .ok (.iconst 0, 1) := dec_3 (gB drcX7_lineSign_0 17 rfl rfl)
theorem dX7_lineSign_18 : decode cX7_lineSign 18 = .ok (.invokestatic 79, 3) := e_184 (x := 0) (y := 79) drcX7_lineSign_0 18 rfl rfl
theorem dX7_lineSign_21 : decode cX7_lineSign 21 = .ok (.ireturn, 1) := dec_172 (gB drcX7_lineSign_0 21 rfl rfl)
def lkcX7_line_0 : List UInt8 := [0x2a, 0x1b, 0xb8, 0x00, 0x21, 0x04, 0xb6, 0x00, 0x33, 0x9a, 0x00, 0x2f, 0x2a, 0x1c, 0x04, 0x10, 0x40, 0xb8, 0x00, 0x1d, 0x99, 0x00, 0x18, 0x1d, 0x03, 0x1c, 0xb8, 0x00, 0x1d, 0x99, 0x00, 0x0f, 0x15, 0x04, 0x03, 0x1c, 0x04, 0x64, 0xb8, 0x00, 0x1d, 0x9a, 0x00, 0x07, 0x04, 0xa7, 0x00, 0x04, 0x03, 0x05, 0xb6, 0x00, 0x19, 0x99, 0x00, 0x05, 0x03, 0xac, 0x1c, 0xbc, 0x0a, 0x3a, 0x05, 0x03]
def lkcX7_line_1 : List UInt8 := [0x36, 0x06, 0x15, 0x06, 0x1c, 0xa2, 0x00, 0x17, 0x19, 0x05, 0x15, 0x06, 0x1c, 0x1d, 0x15, 0x04, 0x15, 0x06, 0xb8, 0x00, 0x81, 0x4f, 0x84, 0x06, 0x01, 0xa7, 0xff, 0xe9, 0x2a, 0x1b, 0x19, 0x05, 0xb6, 0x00, 0x61, 0xac]
def tkcX7_line_1 : List UInt8 := lkcX7_line_1 ++ []
def tkcX7_line_0 : List UInt8 := lkcX7_line_0 ++ tkcX7_line_1
theorem drcX7_line_0 : (cX7_line).data.toList.drop 0 = lkcX7_line_0 ++ tkcX7_line_1 := by decide +kernel
theorem drcX7_line_1 : (cX7_line).data.toList.drop 64 = lkcX7_line_1 ++ [] := dr_step drcX7_line_0 rfl
theorem dX7_line_0 : decode cX7_line 0 = .ok (.aload_n 0, 1) := dec_42 (gB drcX7_line_0 0 rfl rfl)
theorem dX7_line_1 : decode cX7_line 1 = .ok (.iload_n 1, 1) := dec_27 (gB drcX7_line_0 1 rfl rfl)
theorem dX7_line_2 : decode cX7_line 2 = .ok (.invokestatic 33, 3) := e_184 (x := 0) (y := 33) drcX7_line_0 2 rfl rfl
theorem dX7_line_5 : decode cX7_line 5 = .ok (.iconst 1, 1) := dec_4 (gB drcX7_line_0 5 rfl rfl)
theorem dX7_line_6 : decode cX7_line 6 = .ok (.invokevirtual 51, 3) := e_182 (x := 0) (y := 51) drcX7_line_0 6 rfl rfl
theorem dX7_line_9 : decode cX7_line 9 = .ok (.ifCond .ne 47, 3) := e_154 (x := 0) (y := 47) drcX7_line_0 9 rfl rfl
theorem dX7_line_12 : decode cX7_line 12 = .ok (.aload_n 0, 1) := dec_42 (gB drcX7_line_0 12 rfl rfl)
theorem dX7_line_13 : decode cX7_line 13 = .ok (.iload_n 2, 1) := dec_28 (gB drcX7_line_0 13 rfl rfl)
theorem dX7_line_14 : decode cX7_line 14 = .ok (.iconst 1, 1) := dec_4 (gB drcX7_line_0 14 rfl rfl)
theorem dX7_line_15 : decode cX7_line 15 = .ok (.bipush 64, 2) := e_16 (x := 64) drcX7_line_0 15 rfl rfl
theorem dX7_line_17 : decode cX7_line 17 = .ok (.invokestatic 29, 3) := e_184 (x := 0) (y := 29) drcX7_line_0 17 rfl rfl
theorem dX7_line_20 : decode cX7_line 20 = .ok (.ifCond .eq 24, 3) := e_153 (x := 0) (y := 24) drcX7_line_0 20 rfl rfl
theorem dX7_line_23 : decode cX7_line 23 = .ok (.iload_n 3, 1) := dec_29 (gB drcX7_line_0 23 rfl rfl)
theorem dX7_line_24 : decode cX7_line 24 = .ok (.iconst 0, 1) := dec_3 (gB drcX7_line_0 24 rfl rfl)
theorem dX7_line_25 : decode cX7_line 25 = .ok (.iload_n 2, 1) := dec_28 (gB drcX7_line_0 25 rfl rfl)
theorem dX7_line_26 : decode cX7_line 26 = .ok (.invokestatic 29, 3) := e_184 (x := 0) (y := 29) drcX7_line_0 26 rfl rfl
theorem dX7_line_29 : decode cX7_line 29 = .ok (.ifCond .eq 15, 3) := e_153 (x := 0) (y := 15) drcX7_line_0 29 rfl rfl
theorem dX7_line_32 : decode cX7_line 32 = .ok (.iload 4, 2) := e_21 (x := 4) drcX7_line_0 32 rfl rfl
theorem dX7_line_34 : decode cX7_line 34 = .ok (.iconst 0, 1) := dec_3 (gB drcX7_line_0 34 rfl rfl)
theorem dX7_line_35 : decode cX7_line 35 = .ok (.iload_n 2, 1) := dec_28 (gB drcX7_line_0 35 rfl rfl)
theorem dX7_line_36 : decode cX7_line 36 = .ok (.iconst 1, 1) := dec_4 (gB drcX7_line_0 36 rfl rfl)
theorem dX7_line_37 : decode cX7_line 37 = .ok (.isub, 1) := dec_100 (gB drcX7_line_0 37 rfl rfl)
theorem dX7_line_38 : decode cX7_line 38 = .ok (.invokestatic 29, 3) := e_184 (x := 0) (y := 29) drcX7_line_0 38 rfl rfl
theorem dX7_line_41 : decode cX7_line 41 = .ok (.ifCond .ne 7, 3) := e_154 (x := 0) (y := 7) drcX7_line_0 41 rfl rfl
theorem dX7_line_44 : decode cX7_line 44 = .ok (.iconst 1, 1) := dec_4 (gB drcX7_line_0 44 rfl rfl)
theorem dX7_line_45 : decode cX7_line 45 = .ok (.goto 4, 3) := e_167 (x := 0) (y := 4) drcX7_line_0 45 rfl rfl
theorem dX7_line_48 : decode cX7_line 48 = .ok (.iconst 0, 1) := dec_3 (gB drcX7_line_0 48 rfl rfl)
theorem dX7_line_49 : decode cX7_line 49 = .ok (.iconst 2, 1) := dec_5 (gB drcX7_line_0 49 rfl rfl)
theorem dX7_line_50 : decode cX7_line 50 = .ok (.invokevirtual 25, 3) := e_182 (x := 0) (y := 25) drcX7_line_0 50 rfl rfl
theorem dX7_line_53 : decode cX7_line 53 = .ok (.ifCond .eq 5, 3) := e_153 (x := 0) (y := 5) drcX7_line_0 53 rfl rfl
theorem dX7_line_56 : decode cX7_line 56 = .ok (.iconst 0, 1) := dec_3 (gB drcX7_line_0 56 rfl rfl)
theorem dX7_line_57 : decode cX7_line 57 = .ok (.ireturn, 1) := dec_172 (gB drcX7_line_0 57 rfl rfl)
theorem dX7_line_58 : decode cX7_line 58 = .ok (.iload_n 2, 1) := dec_28 (gB drcX7_line_0 58 rfl rfl)
theorem dX7_line_59 : decode cX7_line 59 = .ok (.newarray .int, 2) := by decide +kernel
theorem dX7_line_61 : decode cX7_line 61 = .ok (.astore 5, 2) := e_58 (x := 5) drcX7_line_0 61 rfl rfl
theorem dX7_line_63 : decode cX7_line 63 = .ok (.iconst 0, 1) := dec_3 (gB drcX7_line_0 63 rfl rfl)
theorem dX7_line_64 : decode cX7_line 64 = .ok (.istore 6, 2) := e_54 (x := 6) drcX7_line_1 0 rfl rfl
theorem dX7_line_66 : decode cX7_line 66 = .ok (.iload 6, 2) := e_21 (x := 6) drcX7_line_1 2 rfl rfl
theorem dX7_line_68 : decode cX7_line 68 = .ok (.iload_n 2, 1) := dec_28 (gB drcX7_line_1 4 rfl rfl)
theorem dX7_line_69 : decode cX7_line 69 = .ok (.if_icmp .ge 23, 3) := e_162 (x := 0) (y := 23) drcX7_line_1 5 rfl rfl
theorem dX7_line_72 : decode cX7_line 72 = .ok (.aload 5, 2) := e_25 (x := 5) drcX7_line_1 8 rfl rfl
theorem dX7_line_74 : decode cX7_line 74 = .ok (.iload 6, 2) := e_21 (x := 6) drcX7_line_1 10 rfl rfl
theorem dX7_line_76 : decode cX7_line 76 = .ok (.iload_n 2, 1) := dec_28 (gB drcX7_line_1 12 rfl rfl)
theorem dX7_line_77 : decode cX7_line 77 = .ok (.iload_n 3, 1) := dec_29 (gB drcX7_line_1 13 rfl rfl)
theorem dX7_line_78 : decode cX7_line 78 = .ok (.iload 4, 2) := e_21 (x := 4) drcX7_line_1 14 rfl rfl
theorem dX7_line_80 : decode cX7_line 80 = .ok (.iload 6, 2) := e_21 (x := 6) drcX7_line_1 16 rfl rfl
theorem dX7_line_82 : decode cX7_line 82 = .ok (.invokestatic 129, 3) := e_184 (x := 0) (y := 129) drcX7_line_1 18 rfl rfl
theorem dX7_line_85 : decode cX7_line 85 = .ok (.iastore, 1) := dec_79 (gB drcX7_line_1 21 rfl rfl)
theorem dX7_line_86 : decode cX7_line 86 = .ok (.iinc 6 1, 3) := e_132 (x := 6) (y := 1) drcX7_line_1 22 rfl rfl
theorem dX7_line_89 : decode cX7_line 89 = .ok (.goto (-23), 3) := e_167 (x := 255) (y := 233) drcX7_line_1 25 rfl rfl
theorem dX7_line_92 : decode cX7_line 92 = .ok (.aload_n 0, 1) := dec_42 (gB drcX7_line_1 28 rfl rfl)
theorem dX7_line_93 : decode cX7_line 93 = .ok (.iload_n 1, 1) := dec_27 (gB drcX7_line_1 29 rfl rfl)
theorem dX7_line_94 : decode cX7_line 94 = .ok (.aload 5, 2) := e_25 (x := 5) drcX7_line_1 30 rfl rfl
theorem dX7_line_96 : decode cX7_line 96 = .ok (.invokevirtual 97, 3) := e_182 (x := 0) (y := 97) drcX7_line_1 32 rfl rfl
theorem dX7_line_99 : decode cX7_line 99 = .ok (.ireturn, 1) := dec_172 (gB drcX7_line_1 35 rfl rfl)
def lkcX7_byCopies_0 : List UInt8 := [0x04, 0xbc, 0x0a, 0x59, 0x03, 0x04, 0x4f, 0x4e, 0x04, 0xbc, 0x0a, 0x59, 0x03, 0x03, 0x4f, 0x3a, 0x04, 0x03, 0x36, 0x05, 0x15, 0x05, 0x2a, 0xb4, 0x00, 0x12, 0x1b, 0x2e, 0x1c, 0x64, 0xa2, 0x00, 0x60, 0x2a, 0xb4, 0x00, 0x0f, 0x1b, 0x32, 0x15, 0x05, 0x2e, 0x36, 0x06, 0x15, 0x06, 0x19, 0x04, 0xbe, 0x68, 0x2d, 0xbe, 0x60, 0xbc, 0x0a, 0x3a, 0x07, 0x03, 0x36, 0x08, 0x15, 0x08, 0x19, 0x07]
def lkcX7_byCopies_1 : List UInt8 := [0xbe, 0xa2, 0x00, 0x30, 0x19, 0x07, 0x15, 0x08, 0x15, 0x08, 0x15, 0x06, 0x19, 0x04, 0xbe, 0x68, 0xa2, 0x00, 0x0f, 0x19, 0x04, 0x15, 0x08, 0x19, 0x04, 0xbe, 0x70, 0x2e, 0xa7, 0x00, 0x0e, 0x2d, 0x15, 0x08, 0x15, 0x06, 0x19, 0x04, 0xbe, 0x68, 0x64, 0x2e, 0x4f, 0x84, 0x08, 0x01, 0xa7, 0xff, 0xce, 0x19, 0x04, 0x4e, 0x19, 0x07, 0x3a, 0x04, 0x84, 0x05, 0x01, 0xa7, 0xff, 0x99, 0x19, 0x04]
def lkcX7_byCopies_2 : List UInt8 := [0xb0]
def tkcX7_byCopies_2 : List UInt8 := lkcX7_byCopies_2 ++ []
def tkcX7_byCopies_1 : List UInt8 := lkcX7_byCopies_1 ++ tkcX7_byCopies_2
def tkcX7_byCopies_0 : List UInt8 := lkcX7_byCopies_0 ++ tkcX7_byCopies_1
theorem drcX7_byCopies_0 : (cX7_byCopies).data.toList.drop 0 = lkcX7_byCopies_0 ++ tkcX7_byCopies_1 := by decide +kernel
theorem drcX7_byCopies_1 : (cX7_byCopies).data.toList.drop 64 = lkcX7_byCopies_1 ++ tkcX7_byCopies_2 := dr_step drcX7_byCopies_0 rfl
theorem drcX7_byCopies_2 : (cX7_byCopies).data.toList.drop 128 = lkcX7_byCopies_2 ++ [] := dr_step drcX7_byCopies_1 rfl
theorem dX7_byCopies_0 : decode cX7_byCopies 0 = .ok (.iconst 1, 1) := dec_4 (gB drcX7_byCopies_0 0 rfl rfl)
theorem dX7_byCopies_1 : decode cX7_byCopies 1 = .ok (.newarray .int, 2) := by decide +kernel
theorem dX7_byCopies_3 : decode cX7_byCopies 3 = .ok (.dup, 1) := dec_89 (gB drcX7_byCopies_0 3 rfl rfl)
theorem dX7_byCopies_4 : decode cX7_byCopies 4 = .ok (.iconst 0, 1) := dec_3 (gB drcX7_byCopies_0 4 rfl rfl)
theorem dX7_byCopies_5 : decode cX7_byCopies 5 = .ok (.iconst 1, 1) := dec_4 (gB drcX7_byCopies_0 5 rfl rfl)
theorem dX7_byCopies_6 : decode cX7_byCopies 6 = .ok (.iastore, 1) := dec_79 (gB drcX7_byCopies_0 6 rfl rfl)
theorem dX7_byCopies_7 : decode cX7_byCopies 7 = .ok (.astore_n 3, 1) := dec_78 (gB drcX7_byCopies_0 7 rfl rfl)
theorem dX7_byCopies_8 : decode cX7_byCopies 8 = .ok (.iconst 1, 1) := dec_4 (gB drcX7_byCopies_0 8 rfl rfl)
theorem dX7_byCopies_9 : decode cX7_byCopies 9 = .ok (.newarray .int, 2) := by decide +kernel
theorem dX7_byCopies_11 : decode cX7_byCopies 11 = .ok (.dup, 1) := dec_89 (gB drcX7_byCopies_0 11 rfl rfl)
theorem dX7_byCopies_12 : decode cX7_byCopies 12 = .ok (.iconst 0, 1) := dec_3 (gB drcX7_byCopies_0 12 rfl rfl)
theorem dX7_byCopies_13 : decode cX7_byCopies 13 = .ok (.iconst 0, 1) := dec_3 (gB drcX7_byCopies_0 13 rfl rfl)
theorem dX7_byCopies_14 : decode cX7_byCopies 14 = .ok (.iastore, 1) := dec_79 (gB drcX7_byCopies_0 14 rfl rfl)
theorem dX7_byCopies_15 : decode cX7_byCopies 15 = .ok (.astore 4, 2) := e_58 (x := 4) drcX7_byCopies_0 15 rfl rfl
theorem dX7_byCopies_17 : decode cX7_byCopies 17 = .ok (.iconst 0, 1) := dec_3 (gB drcX7_byCopies_0 17 rfl rfl)
theorem dX7_byCopies_18 : decode cX7_byCopies 18 = .ok (.istore 5, 2) := e_54 (x := 5) drcX7_byCopies_0 18 rfl rfl
theorem dX7_byCopies_20 : decode cX7_byCopies 20 = .ok (.iload 5, 2) := e_21 (x := 5) drcX7_byCopies_0 20 rfl rfl
theorem dX7_byCopies_22 : decode cX7_byCopies 22 = .ok (.aload_n 0, 1) := dec_42 (gB drcX7_byCopies_0 22 rfl rfl)
theorem dX7_byCopies_23 : decode cX7_byCopies 23 = .ok (.getfield 18, 3) := e_180 (x := 0) (y := 18) drcX7_byCopies_0 23 rfl rfl
theorem dX7_byCopies_26 : decode cX7_byCopies 26 = .ok (.iload_n 1, 1) := dec_27 (gB drcX7_byCopies_0 26 rfl rfl)
theorem dX7_byCopies_27 : decode cX7_byCopies 27 = .ok (.iaload, 1) := dec_46 (gB drcX7_byCopies_0 27 rfl rfl)
theorem dX7_byCopies_28 : decode cX7_byCopies 28 = .ok (.iload_n 2, 1) := dec_28 (gB drcX7_byCopies_0 28 rfl rfl)
theorem dX7_byCopies_29 : decode cX7_byCopies 29 = .ok (.isub, 1) := dec_100 (gB drcX7_byCopies_0 29 rfl rfl)
theorem dX7_byCopies_30 : decode cX7_byCopies 30 = .ok (.if_icmp .ge 96, 3) := e_162 (x := 0) (y := 96) drcX7_byCopies_0 30 rfl rfl
theorem dX7_byCopies_33 : decode cX7_byCopies 33 = .ok (.aload_n 0, 1) := dec_42 (gB drcX7_byCopies_0 33 rfl rfl)
theorem dX7_byCopies_34 : decode cX7_byCopies 34 = .ok (.getfield 15, 3) := e_180 (x := 0) (y := 15) drcX7_byCopies_0 34 rfl rfl
theorem dX7_byCopies_37 : decode cX7_byCopies 37 = .ok (.iload_n 1, 1) := dec_27 (gB drcX7_byCopies_0 37 rfl rfl)
theorem dX7_byCopies_38 : decode cX7_byCopies 38 = .ok (.aaload, 1) := dec_50 (gB drcX7_byCopies_0 38 rfl rfl)
theorem dX7_byCopies_39 : decode cX7_byCopies 39 = .ok (.iload 5, 2) := e_21 (x := 5) drcX7_byCopies_0 39 rfl rfl
theorem dX7_byCopies_41 : decode cX7_byCopies 41 = .ok (.iaload, 1) := dec_46 (gB drcX7_byCopies_0 41 rfl rfl)
theorem dX7_byCopies_42 : decode cX7_byCopies 42 = .ok (.istore 6, 2) := e_54 (x := 6) drcX7_byCopies_0 42 rfl rfl
theorem dX7_byCopies_44 : decode cX7_byCopies 44 = .ok (.iload 6, 2) := e_21 (x := 6) drcX7_byCopies_0 44 rfl rfl
theorem dX7_byCopies_46 : decode cX7_byCopies 46 = .ok (.aload 4, 2) := e_25 (x := 4) drcX7_byCopies_0 46 rfl rfl
theorem dX7_byCopies_48 : decode cX7_byCopies 48 = .ok (.arraylength, 1) := dec_190 (gB drcX7_byCopies_0 48 rfl rfl)
theorem dX7_byCopies_49 : decode cX7_byCopies 49 = .ok (.imul, 1) := dec_104 (gB drcX7_byCopies_0 49 rfl rfl)
theorem dX7_byCopies_50 : decode cX7_byCopies 50 = .ok (.aload_n 3, 1) := dec_45 (gB drcX7_byCopies_0 50 rfl rfl)
theorem dX7_byCopies_51 : decode cX7_byCopies 51 = .ok (.arraylength, 1) := dec_190 (gB drcX7_byCopies_0 51 rfl rfl)
theorem dX7_byCopies_52 : decode cX7_byCopies 52 = .ok (.iadd, 1) := dec_96 (gB drcX7_byCopies_0 52 rfl rfl)
theorem dX7_byCopies_53 : decode cX7_byCopies 53 = .ok (.newarray .int, 2) := by decide +kernel
theorem dX7_byCopies_55 : decode cX7_byCopies 55 = .ok (.astore 7, 2) := e_58 (x := 7) drcX7_byCopies_0 55 rfl rfl
theorem dX7_byCopies_57 : decode cX7_byCopies 57 = .ok (.iconst 0, 1) := dec_3 (gB drcX7_byCopies_0 57 rfl rfl)
theorem dX7_byCopies_58 : decode cX7_byCopies 58 = .ok (.istore 8, 2) := e_54 (x := 8) drcX7_byCopies_0 58 rfl rfl
theorem dX7_byCopies_60 : decode cX7_byCopies 60 = .ok (.iload 8, 2) := e_21 (x := 8) drcX7_byCopies_0 60 rfl rfl
theorem dX7_byCopies_62 : decode cX7_byCopies 62 = .ok (.aload 7, 2) := e_25 (x := 7) drcX7_byCopies_0 62 rfl rfl
theorem dX7_byCopies_64 : decode cX7_byCopies 64 = .ok (.arraylength, 1) := dec_190 (gB drcX7_byCopies_1 0 rfl rfl)
theorem dX7_byCopies_65 : decode cX7_byCopies 65 = .ok (.if_icmp .ge 48, 3) := e_162 (x := 0) (y := 48) drcX7_byCopies_1 1 rfl rfl
theorem dX7_byCopies_68 : decode cX7_byCopies 68 = .ok (.aload 7, 2) := e_25 (x := 7) drcX7_byCopies_1 4 rfl rfl
theorem dX7_byCopies_70 : decode cX7_byCopies 70 = .ok (.iload 8, 2) := e_21 (x := 8) drcX7_byCopies_1 6 rfl rfl
theorem dX7_byCopies_72 : decode cX7_byCopies 72 = .ok (.iload 8, 2) := e_21 (x := 8) drcX7_byCopies_1 8 rfl rfl
theorem dX7_byCopies_74 : decode cX7_byCopies 74 = .ok (.iload 6, 2) := e_21 (x := 6) drcX7_byCopies_1 10 rfl rfl
theorem dX7_byCopies_76 : decode cX7_byCopies 76 = .ok (.aload 4, 2) := e_25 (x := 4) drcX7_byCopies_1 12 rfl rfl
theorem dX7_byCopies_78 : decode cX7_byCopies 78 = .ok (.arraylength, 1) := dec_190 (gB drcX7_byCopies_1 14 rfl rfl)
theorem dX7_byCopies_79 : decode cX7_byCopies 79 = .ok (.imul, 1) := dec_104 (gB drcX7_byCopies_1 15 rfl rfl)
theorem dX7_byCopies_80 : decode cX7_byCopies 80 = .ok (.if_icmp .ge 15, 3) := e_162 (x := 0) (y := 15) drcX7_byCopies_1 16 rfl rfl
theorem dX7_byCopies_83 : decode cX7_byCopies 83 = .ok (.aload 4, 2) := e_25 (x := 4) drcX7_byCopies_1 19 rfl rfl
theorem dX7_byCopies_85 : decode cX7_byCopies 85 = .ok (.iload 8, 2) := e_21 (x := 8) drcX7_byCopies_1 21 rfl rfl
theorem dX7_byCopies_87 : decode cX7_byCopies 87 = .ok (.aload 4, 2) := e_25 (x := 4) drcX7_byCopies_1 23 rfl rfl
theorem dX7_byCopies_89 : decode cX7_byCopies 89 = .ok (.arraylength, 1) := dec_190 (gB drcX7_byCopies_1 25 rfl rfl)
theorem dX7_byCopies_90 : decode cX7_byCopies 90 = .ok (.irem, 1) := dec_112 (gB drcX7_byCopies_1 26 rfl rfl)
theorem dX7_byCopies_91 : decode cX7_byCopies 91 = .ok (.iaload, 1) := dec_46 (gB drcX7_byCopies_1 27 rfl rfl)
theorem dX7_byCopies_92 : decode cX7_byCopies 92 = .ok (.goto 14, 3) := e_167 (x := 0) (y := 14) drcX7_byCopies_1 28 rfl rfl
theorem dX7_byCopies_95 : decode cX7_byCopies 95 = .ok (.aload_n 3, 1) := dec_45 (gB drcX7_byCopies_1 31 rfl rfl)
theorem dX7_byCopies_96 : decode cX7_byCopies 96 = .ok (.iload 8, 2) := e_21 (x := 8) drcX7_byCopies_1 32 rfl rfl
theorem dX7_byCopies_98 : decode cX7_byCopies 98 = .ok (.iload 6, 2) := e_21 (x := 6) drcX7_byCopies_1 34 rfl rfl
theorem dX7_byCopies_100 : decode cX7_byCopies 100 = .ok (.aload 4, 2) := e_25 (x := 4) drcX7_byCopies_1 36 rfl rfl
theorem dX7_byCopies_102 : decode cX7_byCopies 102 = .ok (.arraylength, 1) := dec_190 (gB drcX7_byCopies_1 38 rfl rfl)
theorem dX7_byCopies_103 : decode cX7_byCopies 103 = .ok (.imul, 1) := dec_104 (gB drcX7_byCopies_1 39 rfl rfl)
theorem dX7_byCopies_104 : decode cX7_byCopies 104 = .ok (.isub, 1) := dec_100 (gB drcX7_byCopies_1 40 rfl rfl)
theorem dX7_byCopies_105 : decode cX7_byCopies 105 = .ok (.iaload, 1) := dec_46 (gB drcX7_byCopies_1 41 rfl rfl)
theorem dX7_byCopies_106 : decode cX7_byCopies 106 = .ok (.iastore, 1) := dec_79 (gB drcX7_byCopies_1 42 rfl rfl)
theorem dX7_byCopies_107 : decode cX7_byCopies 107 = .ok (.iinc 8 1, 3) := e_132 (x := 8) (y := 1) drcX7_byCopies_1 43 rfl rfl
theorem dX7_byCopies_110 : decode cX7_byCopies 110 = .ok (.goto (-50), 3) := e_167 (x := 255) (y := 206) drcX7_byCopies_1 46 rfl rfl
theorem dX7_byCopies_113 : decode cX7_byCopies 113 = .ok (.aload 4, 2) := e_25 (x := 4) drcX7_byCopies_1 49 rfl rfl
theorem dX7_byCopies_115 : decode cX7_byCopies 115 = .ok (.astore_n 3, 1) := dec_78 (gB drcX7_byCopies_1 51 rfl rfl)
theorem dX7_byCopies_116 : decode cX7_byCopies 116 = .ok (.aload 7, 2) := e_25 (x := 7) drcX7_byCopies_1 52 rfl rfl
theorem dX7_byCopies_118 : decode cX7_byCopies 118 = .ok (.astore 4, 2) := e_58 (x := 4) drcX7_byCopies_1 54 rfl rfl
theorem dX7_byCopies_120 : decode cX7_byCopies 120 = .ok (.iinc 5 1, 3) := e_132 (x := 5) (y := 1) drcX7_byCopies_1 56 rfl rfl
theorem dX7_byCopies_123 : decode cX7_byCopies 123 = .ok (.goto (-103), 3) := e_167 (x := 255) (y := 153) drcX7_byCopies_1 59 rfl rfl
theorem dX7_byCopies_126 : decode cX7_byCopies 126 = .ok (.aload 4, 2) := e_25 (x := 4) drcX7_byCopies_1 62 rfl rfl
theorem dX7_byCopies_128 : decode cX7_byCopies 128 = .ok (.areturn, 1) := dec_176 (gB drcX7_byCopies_2 0 rfl rfl)
def lkcX7_elder_0 : List UInt8 := [0x2a, 0xb4, 0x00, 0x12, 0x1b, 0x2e, 0x9a, 0x00, 0x0d, 0x04, 0xbc, 0x0a, 0x59, 0x03, 0x04, 0x4f, 0xa7, 0x00, 0x09, 0x2a, 0x1b, 0x04, 0xb6, 0x00, 0x74, 0xb0]
def tkcX7_elder_0 : List UInt8 := lkcX7_elder_0 ++ []
theorem drcX7_elder_0 : (cX7_elder).data.toList.drop 0 = lkcX7_elder_0 ++ [] := by decide +kernel
theorem dX7_elder_0 : decode cX7_elder 0 = .ok (.aload_n 0, 1) := dec_42 (gB drcX7_elder_0 0 rfl rfl)
theorem dX7_elder_1 : decode cX7_elder 1 = .ok (.getfield 18, 3) := e_180 (x := 0) (y := 18) drcX7_elder_0 1 rfl rfl
theorem dX7_elder_4 : decode cX7_elder 4 = .ok (.iload_n 1, 1) := dec_27 (gB drcX7_elder_0 4 rfl rfl)
theorem dX7_elder_5 : decode cX7_elder 5 = .ok (.iaload, 1) := dec_46 (gB drcX7_elder_0 5 rfl rfl)
theorem dX7_elder_6 : decode cX7_elder 6 = .ok (.ifCond .ne 13, 3) := e_154 (x := 0) (y := 13) drcX7_elder_0 6 rfl rfl
theorem dX7_elder_9 : decode cX7_elder 9 = .ok (.iconst 1, 1) := dec_4 (gB drcX7_elder_0 9 rfl rfl)
theorem dX7_elder_10 : decode cX7_elder 10 = .ok (.newarray .int, 2) := by decide +kernel
theorem dX7_elder_12 : decode cX7_elder 12 = .ok (.dup, 1) := dec_89 (gB drcX7_elder_0 12 rfl rfl)
theorem dX7_elder_13 : decode cX7_elder 13 = .ok (.iconst 0, 1) := dec_3 (gB drcX7_elder_0 13 rfl rfl)
theorem dX7_elder_14 : decode cX7_elder 14 = .ok (.iconst 1, 1) := dec_4 (gB drcX7_elder_0 14 rfl rfl)
theorem dX7_elder_15 : decode cX7_elder 15 = .ok (.iastore, 1) := dec_79 (gB drcX7_elder_0 15 rfl rfl)
theorem dX7_elder_16 : decode cX7_elder 16 = .ok (.goto 9, 3) := e_167 (x := 0) (y := 9) drcX7_elder_0 16 rfl rfl
theorem dX7_elder_19 : decode cX7_elder 19 = .ok (.aload_n 0, 1) := dec_42 (gB drcX7_elder_0 19 rfl rfl)
theorem dX7_elder_20 : decode cX7_elder 20 = .ok (.iload_n 1, 1) := dec_27 (gB drcX7_elder_0 20 rfl rfl)
theorem dX7_elder_21 : decode cX7_elder 21 = .ok (.iconst 1, 1) := dec_4 (gB drcX7_elder_0 21 rfl rfl)
theorem dX7_elder_22 : decode cX7_elder 22 = .ok (.invokevirtual 116, 3) := e_182 (x := 0) (y := 116) drcX7_elder_0 22 rfl rfl
theorem dX7_elder_25 : decode cX7_elder 25 = .ok (.areturn, 1) := dec_176 (gB drcX7_elder_0 25 rfl rfl)
def lkcX7_word_0 : List UInt8 := [0x1c, 0x99, 0x00, 0x0b, 0x2a, 0x1b, 0xb6, 0x00, 0x85, 0xa7, 0x00, 0x09, 0x2a, 0x1b, 0x03, 0xb6, 0x00, 0x74, 0xb0]
def tkcX7_word_0 : List UInt8 := lkcX7_word_0 ++ []
theorem drcX7_word_0 : (cX7_word).data.toList.drop 0 = lkcX7_word_0 ++ [] := by decide +kernel
theorem dX7_word_0 : decode cX7_word 0 = .ok (.iload_n 2, 1) := dec_28 (gB drcX7_word_0 0 rfl rfl)
theorem dX7_word_1 : decode cX7_word 1 = .ok (.ifCond .eq 11, 3) := e_153 (x := 0) (y := 11) drcX7_word_0 1 rfl rfl
theorem dX7_word_4 : decode cX7_word 4 = .ok (.aload_n 0, 1) := dec_42 (gB drcX7_word_0 4 rfl rfl)
theorem dX7_word_5 : decode cX7_word 5 = .ok (.iload_n 1, 1) := dec_27 (gB drcX7_word_0 5 rfl rfl)
theorem dX7_word_6 : decode cX7_word 6 = .ok (.invokevirtual 133, 3) := e_182 (x := 0) (y := 133) drcX7_word_0 6 rfl rfl
theorem dX7_word_9 : decode cX7_word 9 = .ok (.goto 9, 3) := e_167 (x := 0) (y := 9) drcX7_word_0 9 rfl rfl
theorem dX7_word_12 : decode cX7_word 12 = .ok (.aload_n 0, 1) := dec_42 (gB drcX7_word_0 12 rfl rfl)
theorem dX7_word_13 : decode cX7_word 13 = .ok (.iload_n 1, 1) := dec_27 (gB drcX7_word_0 13 rfl rfl)
theorem dX7_word_14 : decode cX7_word 14 = .ok (.iconst 0, 1) := dec_3 (gB drcX7_word_0 14 rfl rfl)
theorem dX7_word_15 : decode cX7_word 15 = .ok (.invokevirtual 116, 3) := e_182 (x := 0) (y := 116) drcX7_word_0 15 rfl rfl
theorem dX7_word_18 : decode cX7_word 18 = .ok (.areturn, 1) := dec_176 (gB drcX7_word_0 18 rfl rfl)
def lkcX7_byRules_0 : List UInt8 := [0x04, 0xbc, 0x0a, 0x59, 0x03, 0x03, 0x4f, 0x4d, 0x2a, 0xb4, 0x00, 0x12, 0x1b, 0x2e, 0x04, 0x64, 0x3e, 0x1d, 0x9b, 0x00, 0x21, 0x2c, 0x05, 0x2a, 0xb4, 0x00, 0x0f, 0x1b, 0x32, 0x1d, 0x2e, 0x78, 0x04, 0x60, 0xb8, 0x00, 0x37, 0x05, 0xb8, 0x00, 0x37, 0xb8, 0x00, 0x64, 0x4d, 0x84, 0x03, 0xff, 0xa7, 0xff, 0xe1, 0x2c, 0xb0]
def tkcX7_byRules_0 : List UInt8 := lkcX7_byRules_0 ++ []
theorem drcX7_byRules_0 : (cX7_byRules).data.toList.drop 0 = lkcX7_byRules_0 ++ [] := by decide +kernel
theorem dX7_byRules_0 : decode cX7_byRules 0 = .ok (.iconst 1, 1) := dec_4 (gB drcX7_byRules_0 0 rfl rfl)
theorem dX7_byRules_1 : decode cX7_byRules 1 = .ok (.newarray .int, 2) := by decide +kernel
theorem dX7_byRules_3 : decode cX7_byRules 3 = .ok (.dup, 1) := dec_89 (gB drcX7_byRules_0 3 rfl rfl)
theorem dX7_byRules_4 : decode cX7_byRules 4 = .ok (.iconst 0, 1) := dec_3 (gB drcX7_byRules_0 4 rfl rfl)
theorem dX7_byRules_5 : decode cX7_byRules 5 = .ok (.iconst 0, 1) := dec_3 (gB drcX7_byRules_0 5 rfl rfl)
theorem dX7_byRules_6 : decode cX7_byRules 6 = .ok (.iastore, 1) := dec_79 (gB drcX7_byRules_0 6 rfl rfl)
theorem dX7_byRules_7 : decode cX7_byRules 7 = .ok (.astore_n 2, 1) := dec_77 (gB drcX7_byRules_0 7 rfl rfl)
theorem dX7_byRules_8 : decode cX7_byRules 8 = .ok (.aload_n 0, 1) := dec_42 (gB drcX7_byRules_0 8 rfl rfl)
theorem dX7_byRules_9 : decode cX7_byRules 9 = .ok (.getfield 18, 3) := e_180 (x := 0) (y := 18) drcX7_byRules_0 9 rfl rfl
theorem dX7_byRules_12 : decode cX7_byRules 12 = .ok (.iload_n 1, 1) := dec_27 (gB drcX7_byRules_0 12 rfl rfl)
theorem dX7_byRules_13 : decode cX7_byRules 13 = .ok (.iaload, 1) := dec_46 (gB drcX7_byRules_0 13 rfl rfl)
theorem dX7_byRules_14 : decode cX7_byRules 14 = .ok (.iconst 1, 1) := dec_4 (gB drcX7_byRules_0 14 rfl rfl)
theorem dX7_byRules_15 : decode cX7_byRules 15 = .ok (.isub, 1) := dec_100 (gB drcX7_byRules_0 15 rfl rfl)
theorem dX7_byRules_16 : decode cX7_byRules 16 = .ok (.istore_n 3, 1) := dec_62 (gB drcX7_byRules_0 16 rfl rfl)
theorem dX7_byRules_17 : decode cX7_byRules 17 = .ok (.iload_n 3, 1) := dec_29 (gB drcX7_byRules_0 17 rfl rfl)
theorem dX7_byRules_18 : decode cX7_byRules 18 = .ok (.ifCond .lt 33, 3) := e_155 (x := 0) (y := 33) drcX7_byRules_0 18 rfl rfl
theorem dX7_byRules_21 : decode cX7_byRules 21 = .ok (.aload_n 2, 1) := dec_44 (gB drcX7_byRules_0 21 rfl rfl)
theorem dX7_byRules_22 : decode cX7_byRules 22 = .ok (.iconst 2, 1) := dec_5 (gB drcX7_byRules_0 22 rfl rfl)
theorem dX7_byRules_23 : decode cX7_byRules 23 = .ok (.aload_n 0, 1) := dec_42 (gB drcX7_byRules_0 23 rfl rfl)
theorem dX7_byRules_24 : decode cX7_byRules 24 = .ok (.getfield 15, 3) := e_180 (x := 0) (y := 15) drcX7_byRules_0 24 rfl rfl
theorem dX7_byRules_27 : decode cX7_byRules 27 = .ok (.iload_n 1, 1) := dec_27 (gB drcX7_byRules_0 27 rfl rfl)
theorem dX7_byRules_28 : decode cX7_byRules 28 = .ok (.aaload, 1) := dec_50 (gB drcX7_byRules_0 28 rfl rfl)
theorem dX7_byRules_29 : decode cX7_byRules 29 = .ok (.iload_n 3, 1) := dec_29 (gB drcX7_byRules_0 29 rfl rfl)
theorem dX7_byRules_30 : decode cX7_byRules 30 = .ok (.iaload, 1) := dec_46 (gB drcX7_byRules_0 30 rfl rfl)
theorem dX7_byRules_31 : decode cX7_byRules 31 = .ok (.ishl, 1) := dec_120 (gB drcX7_byRules_0 31 rfl rfl)
theorem dX7_byRules_32 : decode cX7_byRules 32 = .ok (.iconst 1, 1) := dec_4 (gB drcX7_byRules_0 32 rfl rfl)
theorem dX7_byRules_33 : decode cX7_byRules 33 = .ok (.iadd, 1) := dec_96 (gB drcX7_byRules_0 33 rfl rfl)
theorem dX7_byRules_34 : decode cX7_byRules 34 = .ok (.invokestatic 55, 3) := e_184 (x := 0) (y := 55) drcX7_byRules_0 34 rfl rfl
theorem dX7_byRules_37 : decode cX7_byRules 37 = .ok (.iconst 2, 1) := dec_5 (gB drcX7_byRules_0 37 rfl rfl)
theorem dX7_byRules_38 : decode cX7_byRules 38 = .ok (.invokestatic 55, 3) := e_184 (x := 0) (y := 55) drcX7_byRules_0 38 rfl rfl
theorem dX7_byRules_41 : decode cX7_byRules 41 = .ok (.invokestatic 100, 3) := e_184 (x := 0) (y := 100) drcX7_byRules_0 41 rfl rfl
theorem dX7_byRules_44 : decode cX7_byRules 44 = .ok (.astore_n 2, 1) := dec_77 (gB drcX7_byRules_0 44 rfl rfl)
theorem dX7_byRules_45 : decode cX7_byRules 45 = .ok (.iinc 3 (-1), 3) := e_132 (x := 3) (y := 255) drcX7_byRules_0 45 rfl rfl
theorem dX7_byRules_48 : decode cX7_byRules 48 = .ok (.goto (-31), 3) := e_167 (x := 255) (y := 225) drcX7_byRules_0 48 rfl rfl
theorem dX7_byRules_51 : decode cX7_byRules 51 = .ok (.aload_n 2, 1) := dec_44 (gB drcX7_byRules_0 51 rfl rfl)
theorem dX7_byRules_52 : decode cX7_byRules 52 = .ok (.areturn, 1) := dec_176 (gB drcX7_byRules_0 52 rfl rfl)
def lkcX7_byLine_0 : List UInt8 := [0x2a, 0xb4, 0x00, 0x12, 0x1b, 0x2e, 0x9a, 0x00, 0x0b, 0x04, 0xbc, 0x0a, 0x59, 0x03, 0x03, 0x4f, 0xb0, 0x05, 0xbc, 0x0a, 0x59, 0x03, 0x04, 0x4f, 0x59, 0x04, 0x04, 0x4f, 0x4d, 0x05, 0xbc, 0x0a, 0x59, 0x03, 0x04, 0x4f, 0x59, 0x04, 0x03, 0x4f, 0x4e, 0x03, 0x36, 0x04, 0x15, 0x04, 0x2a, 0xb4, 0x00, 0x12, 0x1b, 0x2e, 0xa2, 0x00, 0x42, 0x2a, 0xb4, 0x00, 0x0f, 0x1b, 0x32, 0x15, 0x04, 0x2e]
def lkcX7_byLine_1 : List UInt8 := [0x36, 0x05, 0x05, 0xbc, 0x0a, 0x59, 0x03, 0x2c, 0x04, 0x2e, 0x4f, 0x59, 0x04, 0x15, 0x05, 0x2c, 0x04, 0x2e, 0x68, 0x2c, 0x03, 0x2e, 0x60, 0x4f, 0x4d, 0x05, 0xbc, 0x0a, 0x59, 0x03, 0x2d, 0x04, 0x2e, 0x4f, 0x59, 0x04, 0x15, 0x05, 0x2d, 0x04, 0x2e, 0x68, 0x2d, 0x03, 0x2e, 0x60, 0x4f, 0x4e, 0x84, 0x04, 0x01, 0xa7, 0xff, 0xb9, 0x2c, 0x04, 0x2e, 0x36, 0x04, 0x15, 0x04, 0xbc, 0x0a, 0x3a]
def lkcX7_byLine_2 : List UInt8 := [0x05, 0x03, 0x36, 0x06, 0x15, 0x06, 0x15, 0x04, 0x05, 0x64, 0xa2, 0x00, 0x1b, 0x19, 0x05, 0x15, 0x06, 0x15, 0x04, 0x2d, 0x04, 0x2e, 0x03, 0x15, 0x06, 0x04, 0x60, 0xb8, 0x00, 0x81, 0x4f, 0x84, 0x06, 0x01, 0xa7, 0xff, 0xe2, 0x19, 0x05, 0x15, 0x04, 0x05, 0x64, 0x2a, 0xb4, 0x00, 0x12, 0x1b, 0x2e, 0x05, 0x70, 0x9a, 0x00, 0x07, 0x04, 0xa7, 0x00, 0x04, 0x03, 0xb8, 0x00, 0x4f, 0x4f, 0x19]
def lkcX7_byLine_3 : List UInt8 := [0x05, 0x15, 0x04, 0x04, 0x64, 0x2a, 0xb4, 0x00, 0x12, 0x1b, 0x2e, 0x05, 0x70, 0x99, 0x00, 0x07, 0x04, 0xa7, 0x00, 0x04, 0x03, 0xb8, 0x00, 0x4f, 0x4f, 0x19, 0x05, 0xb0]
def tkcX7_byLine_3 : List UInt8 := lkcX7_byLine_3 ++ []
def tkcX7_byLine_2 : List UInt8 := lkcX7_byLine_2 ++ tkcX7_byLine_3
def tkcX7_byLine_1 : List UInt8 := lkcX7_byLine_1 ++ tkcX7_byLine_2
def tkcX7_byLine_0 : List UInt8 := lkcX7_byLine_0 ++ tkcX7_byLine_1
theorem drcX7_byLine_0 : (cX7_byLine).data.toList.drop 0 = lkcX7_byLine_0 ++ tkcX7_byLine_1 := by decide +kernel
theorem drcX7_byLine_1 : (cX7_byLine).data.toList.drop 64 = lkcX7_byLine_1 ++ tkcX7_byLine_2 := dr_step drcX7_byLine_0 rfl
theorem drcX7_byLine_2 : (cX7_byLine).data.toList.drop 128 = lkcX7_byLine_2 ++ tkcX7_byLine_3 := dr_step drcX7_byLine_1 rfl
theorem drcX7_byLine_3 : (cX7_byLine).data.toList.drop 192 = lkcX7_byLine_3 ++ [] := dr_step drcX7_byLine_2 rfl
theorem dX7_byLine_0 : decode cX7_byLine 0 = .ok (.aload_n 0, 1) := dec_42 (gB drcX7_byLine_0 0 rfl rfl)
theorem dX7_byLine_1 : decode cX7_byLine 1 = .ok (.getfield 18, 3) := e_180 (x := 0) (y := 18) drcX7_byLine_0 1 rfl rfl
theorem dX7_byLine_4 : decode cX7_byLine 4 = .ok (.iload_n 1, 1) := dec_27 (gB drcX7_byLine_0 4 rfl rfl)
theorem dX7_byLine_5 : decode cX7_byLine 5 = .ok (.iaload, 1) := dec_46 (gB drcX7_byLine_0 5 rfl rfl)
theorem dX7_byLine_6 : decode cX7_byLine 6 = .ok (.ifCond .ne 11, 3) := e_154 (x := 0) (y := 11) drcX7_byLine_0 6 rfl rfl
theorem dX7_byLine_9 : decode cX7_byLine 9 = .ok (.iconst 1, 1) := dec_4 (gB drcX7_byLine_0 9 rfl rfl)
theorem dX7_byLine_10 : decode cX7_byLine 10 = .ok (.newarray .int, 2) := by decide +kernel
theorem dX7_byLine_12 : decode cX7_byLine 12 = .ok (.dup, 1) := dec_89 (gB drcX7_byLine_0 12 rfl rfl)
theorem dX7_byLine_13 : decode cX7_byLine 13 = .ok (.iconst 0, 1) := dec_3 (gB drcX7_byLine_0 13 rfl rfl)
theorem dX7_byLine_14 : decode cX7_byLine 14 = .ok (.iconst 0, 1) := dec_3 (gB drcX7_byLine_0 14 rfl rfl)
theorem dX7_byLine_15 : decode cX7_byLine 15 = .ok (.iastore, 1) := dec_79 (gB drcX7_byLine_0 15 rfl rfl)
theorem dX7_byLine_16 : decode cX7_byLine 16 = .ok (.areturn, 1) := dec_176 (gB drcX7_byLine_0 16 rfl rfl)
theorem dX7_byLine_17 : decode cX7_byLine 17 = .ok (.iconst 2, 1) := dec_5 (gB drcX7_byLine_0 17 rfl rfl)
theorem dX7_byLine_18 : decode cX7_byLine 18 = .ok (.newarray .int, 2) := by decide +kernel
theorem dX7_byLine_20 : decode cX7_byLine 20 = .ok (.dup, 1) := dec_89 (gB drcX7_byLine_0 20 rfl rfl)
theorem dX7_byLine_21 : decode cX7_byLine 21 = .ok (.iconst 0, 1) := dec_3 (gB drcX7_byLine_0 21 rfl rfl)
theorem dX7_byLine_22 : decode cX7_byLine 22 = .ok (.iconst 1, 1) := dec_4 (gB drcX7_byLine_0 22 rfl rfl)
theorem dX7_byLine_23 : decode cX7_byLine 23 = .ok (.iastore, 1) := dec_79 (gB drcX7_byLine_0 23 rfl rfl)
theorem dX7_byLine_24 : decode cX7_byLine 24 = .ok (.dup, 1) := dec_89 (gB drcX7_byLine_0 24 rfl rfl)
theorem dX7_byLine_25 : decode cX7_byLine 25 = .ok (.iconst 1, 1) := dec_4 (gB drcX7_byLine_0 25 rfl rfl)
theorem dX7_byLine_26 : decode cX7_byLine 26 = .ok (.iconst 1, 1) := dec_4 (gB drcX7_byLine_0 26 rfl rfl)
theorem dX7_byLine_27 : decode cX7_byLine 27 = .ok (.iastore, 1) := dec_79 (gB drcX7_byLine_0 27 rfl rfl)
theorem dX7_byLine_28 : decode cX7_byLine 28 = .ok (.astore_n 2, 1) := dec_77 (gB drcX7_byLine_0 28 rfl rfl)
theorem dX7_byLine_29 : decode cX7_byLine 29 = .ok (.iconst 2, 1) := dec_5 (gB drcX7_byLine_0 29 rfl rfl)
theorem dX7_byLine_30 : decode cX7_byLine 30 = .ok (.newarray .int, 2) := by decide +kernel
theorem dX7_byLine_32 : decode cX7_byLine 32 = .ok (.dup, 1) := dec_89 (gB drcX7_byLine_0 32 rfl rfl)
theorem dX7_byLine_33 : decode cX7_byLine 33 = .ok (.iconst 0, 1) := dec_3 (gB drcX7_byLine_0 33 rfl rfl)
theorem dX7_byLine_34 : decode cX7_byLine 34 = .ok (.iconst 1, 1) := dec_4 (gB drcX7_byLine_0 34 rfl rfl)
theorem dX7_byLine_35 : decode cX7_byLine 35 = .ok (.iastore, 1) := dec_79 (gB drcX7_byLine_0 35 rfl rfl)
theorem dX7_byLine_36 : decode cX7_byLine 36 = .ok (.dup, 1) := dec_89 (gB drcX7_byLine_0 36 rfl rfl)
theorem dX7_byLine_37 : decode cX7_byLine 37 = .ok (.iconst 1, 1) := dec_4 (gB drcX7_byLine_0 37 rfl rfl)
theorem dX7_byLine_38 : decode cX7_byLine 38 = .ok (.iconst 0, 1) := dec_3 (gB drcX7_byLine_0 38 rfl rfl)
theorem dX7_byLine_39 : decode cX7_byLine 39 = .ok (.iastore, 1) := dec_79 (gB drcX7_byLine_0 39 rfl rfl)
theorem dX7_byLine_40 : decode cX7_byLine 40 = .ok (.astore_n 3, 1) := dec_78 (gB drcX7_byLine_0 40 rfl rfl)
theorem dX7_byLine_41 : decode cX7_byLine 41 = .ok (.iconst 0, 1) := dec_3 (gB drcX7_byLine_0 41 rfl rfl)
theorem dX7_byLine_42 : decode cX7_byLine 42 = .ok (.istore 4, 2) := e_54 (x := 4) drcX7_byLine_0 42 rfl rfl
theorem dX7_byLine_44 : decode cX7_byLine 44 = .ok (.iload 4, 2) := e_21 (x := 4) drcX7_byLine_0 44 rfl rfl
theorem dX7_byLine_46 : decode cX7_byLine 46 = .ok (.aload_n 0, 1) := dec_42 (gB drcX7_byLine_0 46 rfl rfl)
theorem dX7_byLine_47 : decode cX7_byLine 47 = .ok (.getfield 18, 3) := e_180 (x := 0) (y := 18) drcX7_byLine_0 47 rfl rfl
theorem dX7_byLine_50 : decode cX7_byLine 50 = .ok (.iload_n 1, 1) := dec_27 (gB drcX7_byLine_0 50 rfl rfl)
theorem dX7_byLine_51 : decode cX7_byLine 51 = .ok (.iaload, 1) := dec_46 (gB drcX7_byLine_0 51 rfl rfl)
theorem dX7_byLine_52 : decode cX7_byLine 52 = .ok (.if_icmp .ge 66, 3) := e_162 (x := 0) (y := 66) drcX7_byLine_0 52 rfl rfl
theorem dX7_byLine_55 : decode cX7_byLine 55 = .ok (.aload_n 0, 1) := dec_42 (gB drcX7_byLine_0 55 rfl rfl)
theorem dX7_byLine_56 : decode cX7_byLine 56 = .ok (.getfield 15, 3) := e_180 (x := 0) (y := 15) drcX7_byLine_0 56 rfl rfl
theorem dX7_byLine_59 : decode cX7_byLine 59 = .ok (.iload_n 1, 1) := dec_27 (gB drcX7_byLine_0 59 rfl rfl)
theorem dX7_byLine_60 : decode cX7_byLine 60 = .ok (.aaload, 1) := dec_50 (gB drcX7_byLine_0 60 rfl rfl)
theorem dX7_byLine_61 : decode cX7_byLine 61 = .ok (.iload 4, 2) := e_21 (x := 4) drcX7_byLine_0 61 rfl rfl
theorem dX7_byLine_63 : decode cX7_byLine 63 = .ok (.iaload, 1) := dec_46 (gB drcX7_byLine_0 63 rfl rfl)
theorem dX7_byLine_64 : decode cX7_byLine 64 = .ok (.istore 5, 2) := e_54 (x := 5) drcX7_byLine_1 0 rfl rfl
theorem dX7_byLine_66 : decode cX7_byLine 66 = .ok (.iconst 2, 1) := dec_5 (gB drcX7_byLine_1 2 rfl rfl)
theorem dX7_byLine_67 : decode cX7_byLine 67 = .ok (.newarray .int, 2) := by decide +kernel
theorem dX7_byLine_69 : decode cX7_byLine 69 = .ok (.dup, 1) := dec_89 (gB drcX7_byLine_1 5 rfl rfl)
theorem dX7_byLine_70 : decode cX7_byLine 70 = .ok (.iconst 0, 1) := dec_3 (gB drcX7_byLine_1 6 rfl rfl)
theorem dX7_byLine_71 : decode cX7_byLine 71 = .ok (.aload_n 2, 1) := dec_44 (gB drcX7_byLine_1 7 rfl rfl)
theorem dX7_byLine_72 : decode cX7_byLine 72 = .ok (.iconst 1, 1) := dec_4 (gB drcX7_byLine_1 8 rfl rfl)
theorem dX7_byLine_73 : decode cX7_byLine 73 = .ok (.iaload, 1) := dec_46 (gB drcX7_byLine_1 9 rfl rfl)
theorem dX7_byLine_74 : decode cX7_byLine 74 = .ok (.iastore, 1) := dec_79 (gB drcX7_byLine_1 10 rfl rfl)
theorem dX7_byLine_75 : decode cX7_byLine 75 = .ok (.dup, 1) := dec_89 (gB drcX7_byLine_1 11 rfl rfl)
theorem dX7_byLine_76 : decode cX7_byLine 76 = .ok (.iconst 1, 1) := dec_4 (gB drcX7_byLine_1 12 rfl rfl)
theorem dX7_byLine_77 : decode cX7_byLine 77 = .ok (.iload 5, 2) := e_21 (x := 5) drcX7_byLine_1 13 rfl rfl
theorem dX7_byLine_79 : decode cX7_byLine 79 = .ok (.aload_n 2, 1) := dec_44 (gB drcX7_byLine_1 15 rfl rfl)
theorem dX7_byLine_80 : decode cX7_byLine 80 = .ok (.iconst 1, 1) := dec_4 (gB drcX7_byLine_1 16 rfl rfl)
theorem dX7_byLine_81 : decode cX7_byLine 81 = .ok (.iaload, 1) := dec_46 (gB drcX7_byLine_1 17 rfl rfl)
theorem dX7_byLine_82 : decode cX7_byLine 82 = .ok (.imul, 1) := dec_104 (gB drcX7_byLine_1 18 rfl rfl)
theorem dX7_byLine_83 : decode cX7_byLine 83 = .ok (.aload_n 2, 1) := dec_44 (gB drcX7_byLine_1 19 rfl rfl)
theorem dX7_byLine_84 : decode cX7_byLine 84 = .ok (.iconst 0, 1) := dec_3 (gB drcX7_byLine_1 20 rfl rfl)
theorem dX7_byLine_85 : decode cX7_byLine 85 = .ok (.iaload, 1) := dec_46 (gB drcX7_byLine_1 21 rfl rfl)
theorem dX7_byLine_86 : decode cX7_byLine 86 = .ok (.iadd, 1) := dec_96 (gB drcX7_byLine_1 22 rfl rfl)
theorem dX7_byLine_87 : decode cX7_byLine 87 = .ok (.iastore, 1) := dec_79 (gB drcX7_byLine_1 23 rfl rfl)
theorem dX7_byLine_88 : decode cX7_byLine 88 = .ok (.astore_n 2, 1) := dec_77 (gB drcX7_byLine_1 24 rfl rfl)
theorem dX7_byLine_89 : decode cX7_byLine 89 = .ok (.iconst 2, 1) := dec_5 (gB drcX7_byLine_1 25 rfl rfl)
theorem dX7_byLine_90 : decode cX7_byLine 90 = .ok (.newarray .int, 2) := by decide +kernel
theorem dX7_byLine_92 : decode cX7_byLine 92 = .ok (.dup, 1) := dec_89 (gB drcX7_byLine_1 28 rfl rfl)
theorem dX7_byLine_93 : decode cX7_byLine 93 = .ok (.iconst 0, 1) := dec_3 (gB drcX7_byLine_1 29 rfl rfl)
theorem dX7_byLine_94 : decode cX7_byLine 94 = .ok (.aload_n 3, 1) := dec_45 (gB drcX7_byLine_1 30 rfl rfl)
theorem dX7_byLine_95 : decode cX7_byLine 95 = .ok (.iconst 1, 1) := dec_4 (gB drcX7_byLine_1 31 rfl rfl)
theorem dX7_byLine_96 : decode cX7_byLine 96 = .ok (.iaload, 1) := dec_46 (gB drcX7_byLine_1 32 rfl rfl)
theorem dX7_byLine_97 : decode cX7_byLine 97 = .ok (.iastore, 1) := dec_79 (gB drcX7_byLine_1 33 rfl rfl)
theorem dX7_byLine_98 : decode cX7_byLine 98 = .ok (.dup, 1) := dec_89 (gB drcX7_byLine_1 34 rfl rfl)
theorem dX7_byLine_99 : decode cX7_byLine 99 = .ok (.iconst 1, 1) := dec_4 (gB drcX7_byLine_1 35 rfl rfl)
theorem dX7_byLine_100 : decode cX7_byLine 100 = .ok (.iload 5, 2) := e_21 (x := 5) drcX7_byLine_1 36 rfl rfl
theorem dX7_byLine_102 : decode cX7_byLine 102 = .ok (.aload_n 3, 1) := dec_45 (gB drcX7_byLine_1 38 rfl rfl)
theorem dX7_byLine_103 : decode cX7_byLine 103 = .ok (.iconst 1, 1) := dec_4 (gB drcX7_byLine_1 39 rfl rfl)
theorem dX7_byLine_104 : decode cX7_byLine 104 = .ok (.iaload, 1) := dec_46 (gB drcX7_byLine_1 40 rfl rfl)
theorem dX7_byLine_105 : decode cX7_byLine 105 = .ok (.imul, 1) := dec_104 (gB drcX7_byLine_1 41 rfl rfl)
theorem dX7_byLine_106 : decode cX7_byLine 106 = .ok (.aload_n 3, 1) := dec_45 (gB drcX7_byLine_1 42 rfl rfl)
theorem dX7_byLine_107 : decode cX7_byLine 107 = .ok (.iconst 0, 1) := dec_3 (gB drcX7_byLine_1 43 rfl rfl)
theorem dX7_byLine_108 : decode cX7_byLine 108 = .ok (.iaload, 1) := dec_46 (gB drcX7_byLine_1 44 rfl rfl)
theorem dX7_byLine_109 : decode cX7_byLine 109 = .ok (.iadd, 1) := dec_96 (gB drcX7_byLine_1 45 rfl rfl)
theorem dX7_byLine_110 : decode cX7_byLine 110 = .ok (.iastore, 1) := dec_79 (gB drcX7_byLine_1 46 rfl rfl)
theorem dX7_byLine_111 : decode cX7_byLine 111 = .ok (.astore_n 3, 1) := dec_78 (gB drcX7_byLine_1 47 rfl rfl)
theorem dX7_byLine_112 : decode cX7_byLine 112 = .ok (.iinc 4 1, 3) := e_132 (x := 4) (y := 1) drcX7_byLine_1 48 rfl rfl
theorem dX7_byLine_115 : decode cX7_byLine 115 = .ok (.goto (-71), 3) := e_167 (x := 255) (y := 185) drcX7_byLine_1 51 rfl rfl
theorem dX7_byLine_118 : decode cX7_byLine 118 = .ok (.aload_n 2, 1) := dec_44 (gB drcX7_byLine_1 54 rfl rfl)
theorem dX7_byLine_119 : decode cX7_byLine 119 = .ok (.iconst 1, 1) := dec_4 (gB drcX7_byLine_1 55 rfl rfl)
theorem dX7_byLine_120 : decode cX7_byLine 120 = .ok (.iaload, 1) := dec_46 (gB drcX7_byLine_1 56 rfl rfl)
theorem dX7_byLine_121 : decode cX7_byLine 121 = .ok (.istore 4, 2) := e_54 (x := 4) drcX7_byLine_1 57 rfl rfl
theorem dX7_byLine_123 : decode cX7_byLine 123 = .ok (.iload 4, 2) := e_21 (x := 4) drcX7_byLine_1 59 rfl rfl
theorem dX7_byLine_125 : decode cX7_byLine 125 = .ok (.newarray .int, 2) := by decide +kernel
theorem dX7_byLine_127 : decode cX7_byLine 127 = .ok (.astore 5, 2) := dec_58 (a := 5) (gB drcX7_byLine_1 63 rfl rfl) (gB drcX7_byLine_2 0 rfl rfl)
theorem dX7_byLine_129 : decode cX7_byLine 129 = .ok (.iconst 0, 1) := dec_3 (gB drcX7_byLine_2 1 rfl rfl)
theorem dX7_byLine_130 : decode cX7_byLine 130 = .ok (.istore 6, 2) := e_54 (x := 6) drcX7_byLine_2 2 rfl rfl
theorem dX7_byLine_132 : decode cX7_byLine 132 = .ok (.iload 6, 2) := e_21 (x := 6) drcX7_byLine_2 4 rfl rfl
theorem dX7_byLine_134 : decode cX7_byLine 134 = .ok (.iload 4, 2) := e_21 (x := 4) drcX7_byLine_2 6 rfl rfl
theorem dX7_byLine_136 : decode cX7_byLine 136 = .ok (.iconst 2, 1) := dec_5 (gB drcX7_byLine_2 8 rfl rfl)
theorem dX7_byLine_137 : decode cX7_byLine 137 = .ok (.isub, 1) := dec_100 (gB drcX7_byLine_2 9 rfl rfl)
theorem dX7_byLine_138 : decode cX7_byLine 138 = .ok (.if_icmp .ge 27, 3) := e_162 (x := 0) (y := 27) drcX7_byLine_2 10 rfl rfl
theorem dX7_byLine_141 : decode cX7_byLine 141 = .ok (.aload 5, 2) := e_25 (x := 5) drcX7_byLine_2 13 rfl rfl
theorem dX7_byLine_143 : decode cX7_byLine 143 = .ok (.iload 6, 2) := e_21 (x := 6) drcX7_byLine_2 15 rfl rfl
theorem dX7_byLine_145 : decode cX7_byLine 145 = .ok (.iload 4, 2) := e_21 (x := 4) drcX7_byLine_2 17 rfl rfl
theorem dX7_byLine_147 : decode cX7_byLine 147 = .ok (.aload_n 3, 1) := dec_45 (gB drcX7_byLine_2 19 rfl rfl)
theorem dX7_byLine_148 : decode cX7_byLine 148 = .ok (.iconst 1, 1) := dec_4 (gB drcX7_byLine_2 20 rfl rfl)
theorem dX7_byLine_149 : decode cX7_byLine 149 = .ok (.iaload, 1) := dec_46 (gB drcX7_byLine_2 21 rfl rfl)
theorem dX7_byLine_150 : decode cX7_byLine 150 = .ok (.iconst 0, 1) := dec_3 (gB drcX7_byLine_2 22 rfl rfl)
theorem dX7_byLine_151 : decode cX7_byLine 151 = .ok (.iload 6, 2) := e_21 (x := 6) drcX7_byLine_2 23 rfl rfl
theorem dX7_byLine_153 : decode cX7_byLine 153 = .ok (.iconst 1, 1) := dec_4 (gB drcX7_byLine_2 25 rfl rfl)
theorem dX7_byLine_154 : decode cX7_byLine 154 = .ok (.iadd, 1) := dec_96 (gB drcX7_byLine_2 26 rfl rfl)
theorem dX7_byLine_155 : decode cX7_byLine 155 = .ok (.invokestatic 129, 3) := e_184 (x := 0) (y := 129) drcX7_byLine_2 27 rfl rfl
theorem dX7_byLine_158 : decode cX7_byLine 158 = .ok (.iastore, 1) := dec_79 (gB drcX7_byLine_2 30 rfl rfl)
theorem dX7_byLine_159 : decode cX7_byLine 159 = .ok (.iinc 6 1, 3) := e_132 (x := 6) (y := 1) drcX7_byLine_2 31 rfl rfl
theorem dX7_byLine_162 : decode cX7_byLine 162 = .ok (.goto (-30), 3) := e_167 (x := 255) (y := 226) drcX7_byLine_2 34 rfl rfl
theorem dX7_byLine_165 : decode cX7_byLine 165 = .ok (.aload 5, 2) := e_25 (x := 5) drcX7_byLine_2 37 rfl rfl
theorem dX7_byLine_167 : decode cX7_byLine 167 = .ok (.iload 4, 2) := e_21 (x := 4) drcX7_byLine_2 39 rfl rfl
theorem dX7_byLine_169 : decode cX7_byLine 169 = .ok (.iconst 2, 1) := dec_5 (gB drcX7_byLine_2 41 rfl rfl)
theorem dX7_byLine_170 : decode cX7_byLine 170 = .ok (.isub, 1) := dec_100 (gB drcX7_byLine_2 42 rfl rfl)
theorem dX7_byLine_171 : decode cX7_byLine 171 = .ok (.aload_n 0, 1) := dec_42 (gB drcX7_byLine_2 43 rfl rfl)
theorem dX7_byLine_172 : decode cX7_byLine 172 = .ok (.getfield 18, 3) := e_180 (x := 0) (y := 18) drcX7_byLine_2 44 rfl rfl
theorem dX7_byLine_175 : decode cX7_byLine 175 = .ok (.iload_n 1, 1) := dec_27 (gB drcX7_byLine_2 47 rfl rfl)
theorem dX7_byLine_176 : decode cX7_byLine 176 = .ok (.iaload, 1) := dec_46 (gB drcX7_byLine_2 48 rfl rfl)
theorem dX7_byLine_177 : decode cX7_byLine 177 = .ok (.iconst 2, 1) := dec_5 (gB drcX7_byLine_2 49 rfl rfl)
theorem dX7_byLine_178 : decode cX7_byLine 178 = .ok (.irem, 1) := dec_112 (gB drcX7_byLine_2 50 rfl rfl)
theorem dX7_byLine_179 : decode cX7_byLine 179 = .ok (.ifCond .ne 7, 3) := e_154 (x := 0) (y := 7) drcX7_byLine_2 51 rfl rfl
theorem dX7_byLine_182 : decode cX7_byLine 182 = .ok (.iconst 1, 1) := dec_4 (gB drcX7_byLine_2 54 rfl rfl)
theorem dX7_byLine_183 : decode cX7_byLine 183 = .ok (.goto 4, 3) := e_167 (x := 0) (y := 4) drcX7_byLine_2 55 rfl rfl
theorem dX7_byLine_186 : decode cX7_byLine 186 = .ok (.iconst 0, 1) := dec_3 (gB drcX7_byLine_2 58 rfl rfl)
theorem dX7_byLine_187 : decode cX7_byLine 187 = .ok (.invokestatic 79, 3) := e_184 (x := 0) (y := 79) drcX7_byLine_2 59 rfl rfl
theorem dX7_byLine_190 : decode cX7_byLine 190 = .ok (.iastore, 1) := dec_79 (gB drcX7_byLine_2 62 rfl rfl)
theorem dX7_byLine_191 : decode cX7_byLine 191 = .ok (.aload 5, 2) := dec_25 (a := 5) (gB drcX7_byLine_2 63 rfl rfl) (gB drcX7_byLine_3 0 rfl rfl)
theorem dX7_byLine_193 : decode cX7_byLine 193 = .ok (.iload 4, 2) := e_21 (x := 4) drcX7_byLine_3 1 rfl rfl
theorem dX7_byLine_195 : decode cX7_byLine 195 = .ok (.iconst 1, 1) := dec_4 (gB drcX7_byLine_3 3 rfl rfl)
theorem dX7_byLine_196 : decode cX7_byLine 196 = .ok (.isub, 1) := dec_100 (gB drcX7_byLine_3 4 rfl rfl)
theorem dX7_byLine_197 : decode cX7_byLine 197 = .ok (.aload_n 0, 1) := dec_42 (gB drcX7_byLine_3 5 rfl rfl)
theorem dX7_byLine_198 : decode cX7_byLine 198 = .ok (.getfield 18, 3) := e_180 (x := 0) (y := 18) drcX7_byLine_3 6 rfl rfl
theorem dX7_byLine_201 : decode cX7_byLine 201 = .ok (.iload_n 1, 1) := dec_27 (gB drcX7_byLine_3 9 rfl rfl)
theorem dX7_byLine_202 : decode cX7_byLine 202 = .ok (.iaload, 1) := dec_46 (gB drcX7_byLine_3 10 rfl rfl)
theorem dX7_byLine_203 : decode cX7_byLine 203 = .ok (.iconst 2, 1) := dec_5 (gB drcX7_byLine_3 11 rfl rfl)
theorem dX7_byLine_204 : decode cX7_byLine 204 = .ok (.irem, 1) := dec_112 (gB drcX7_byLine_3 12 rfl rfl)
theorem dX7_byLine_205 : decode cX7_byLine 205 = .ok (.ifCond .eq 7, 3) := e_153 (x := 0) (y := 7) drcX7_byLine_3 13 rfl rfl
theorem dX7_byLine_208 : decode cX7_byLine 208 = .ok (.iconst 1, 1) := dec_4 (gB drcX7_byLine_3 16 rfl rfl)
theorem dX7_byLine_209 : decode cX7_byLine 209 = .ok (.goto 4, 3) := e_167 (x := 0) (y := 4) drcX7_byLine_3 17 rfl rfl
theorem dX7_byLine_212 : decode cX7_byLine 212 = .ok (.iconst 0, 1) := dec_3 (gB drcX7_byLine_3 20 rfl rfl)
theorem dX7_byLine_213 : decode cX7_byLine 213 = .ok (.invokestatic 79, 3) := e_184 (x := 0) (y := 79) drcX7_byLine_3 21 rfl rfl
theorem dX7_byLine_216 : decode cX7_byLine 216 = .ok (.iastore, 1) := dec_79 (gB drcX7_byLine_3 24 rfl rfl)
theorem dX7_byLine_217 : decode cX7_byLine 217 = .ok (.aload 5, 2) := e_25 (x := 5) drcX7_byLine_3 25 rfl rfl
theorem dX7_byLine_219 : decode cX7_byLine 219 = .ok (.areturn, 1) := dec_176 (gB drcX7_byLine_3 27 rfl rfl)
def lkcX7_grow_0 : List UInt8 := [0x2a, 0x1b, 0xb8, 0x00, 0x71, 0x04, 0xb6, 0x00, 0x33, 0x9a, 0x00, 0x19, 0x2a, 0x1c, 0x04, 0x06, 0xb8, 0x00, 0x1d, 0x9a, 0x00, 0x07, 0x04, 0xa7, 0x00, 0x04, 0x03, 0x05, 0xb6, 0x00, 0x19, 0x99, 0x00, 0x05, 0x03, 0xac, 0x1c, 0x2a, 0x1b, 0x03, 0xb6, 0x00, 0x74, 0xbe, 0x68, 0x2a, 0x1b, 0xb6, 0x00, 0x85, 0xbe, 0x60, 0x3e, 0x1d, 0x10, 0x40, 0xa4, 0x00, 0x08, 0x2a, 0xb6, 0x00, 0x3f, 0xac]
def lkcX7_grow_1 : List UInt8 := [0x2a, 0xb4, 0x00, 0x0f, 0x1b, 0x32, 0x2a, 0xb4, 0x00, 0x12, 0x1b, 0x2e, 0x1c, 0x4f, 0x2a, 0xb4, 0x00, 0x12, 0x1b, 0x5c, 0x2e, 0x04, 0x60, 0x4f, 0x2a, 0x59, 0xb4, 0x00, 0x88, 0x04, 0x60, 0xb5, 0x00, 0x88, 0x1d, 0xac]
def tkcX7_grow_1 : List UInt8 := lkcX7_grow_1 ++ []
def tkcX7_grow_0 : List UInt8 := lkcX7_grow_0 ++ tkcX7_grow_1
theorem drcX7_grow_0 : (cX7_grow).data.toList.drop 0 = lkcX7_grow_0 ++ tkcX7_grow_1 := by decide +kernel
theorem drcX7_grow_1 : (cX7_grow).data.toList.drop 64 = lkcX7_grow_1 ++ [] := dr_step drcX7_grow_0 rfl
theorem dX7_grow_0 : decode cX7_grow 0 = .ok (.aload_n 0, 1) := dec_42 (gB drcX7_grow_0 0 rfl rfl)
theorem dX7_grow_1 : decode cX7_grow 1 = .ok (.iload_n 1, 1) := dec_27 (gB drcX7_grow_0 1 rfl rfl)
theorem dX7_grow_2 : decode cX7_grow 2 = .ok (.invokestatic 113, 3) := e_184 (x := 0) (y := 113) drcX7_grow_0 2 rfl rfl
theorem dX7_grow_5 : decode cX7_grow 5 = .ok (.iconst 1, 1) := dec_4 (gB drcX7_grow_0 5 rfl rfl)
theorem dX7_grow_6 : decode cX7_grow 6 = .ok (.invokevirtual 51, 3) := e_182 (x := 0) (y := 51) drcX7_grow_0 6 rfl rfl
theorem dX7_grow_9 : decode cX7_grow 9 = .ok (.ifCond .ne 25, 3) := e_154 (x := 0) (y := 25) drcX7_grow_0 9 rfl rfl
theorem dX7_grow_12 : decode cX7_grow 12 = .ok (.aload_n 0, 1) := dec_42 (gB drcX7_grow_0 12 rfl rfl)
theorem dX7_grow_13 : decode cX7_grow 13 = .ok (.iload_n 2, 1) := dec_28 (gB drcX7_grow_0 13 rfl rfl)
theorem dX7_grow_14 : decode cX7_grow 14 = .ok (.iconst 1, 1) := dec_4 (gB drcX7_grow_0 14 rfl rfl)
theorem dX7_grow_15 : decode cX7_grow 15 = .ok (.iconst 3, 1) := dec_6 (gB drcX7_grow_0 15 rfl rfl)
theorem dX7_grow_16 : decode cX7_grow 16 = .ok (.invokestatic 29, 3) := e_184 (x := 0) (y := 29) drcX7_grow_0 16 rfl rfl
theorem dX7_grow_19 : decode cX7_grow 19 = .ok (.ifCond .ne 7, 3) := e_154 (x := 0) (y := 7) drcX7_grow_0 19 rfl rfl
theorem dX7_grow_22 : decode cX7_grow 22 = .ok (.iconst 1, 1) := dec_4 (gB drcX7_grow_0 22 rfl rfl)
theorem dX7_grow_23 : decode cX7_grow 23 = .ok (.goto 4, 3) := e_167 (x := 0) (y := 4) drcX7_grow_0 23 rfl rfl
theorem dX7_grow_26 : decode cX7_grow 26 = .ok (.iconst 0, 1) := dec_3 (gB drcX7_grow_0 26 rfl rfl)
theorem dX7_grow_27 : decode cX7_grow 27 = .ok (.iconst 2, 1) := dec_5 (gB drcX7_grow_0 27 rfl rfl)
theorem dX7_grow_28 : decode cX7_grow 28 = .ok (.invokevirtual 25, 3) := e_182 (x := 0) (y := 25) drcX7_grow_0 28 rfl rfl
theorem dX7_grow_31 : decode cX7_grow 31 = .ok (.ifCond .eq 5, 3) := e_153 (x := 0) (y := 5) drcX7_grow_0 31 rfl rfl
theorem dX7_grow_34 : decode cX7_grow 34 = .ok (.iconst 0, 1) := dec_3 (gB drcX7_grow_0 34 rfl rfl)
theorem dX7_grow_35 : decode cX7_grow 35 = .ok (.ireturn, 1) := dec_172 (gB drcX7_grow_0 35 rfl rfl)
theorem dX7_grow_36 : decode cX7_grow 36 = .ok (.iload_n 2, 1) := dec_28 (gB drcX7_grow_0 36 rfl rfl)
theorem dX7_grow_37 : decode cX7_grow 37 = .ok (.aload_n 0, 1) := dec_42 (gB drcX7_grow_0 37 rfl rfl)
theorem dX7_grow_38 : decode cX7_grow 38 = .ok (.iload_n 1, 1) := dec_27 (gB drcX7_grow_0 38 rfl rfl)
theorem dX7_grow_39 : decode cX7_grow 39 = .ok (.iconst 0, 1) := dec_3 (gB drcX7_grow_0 39 rfl rfl)
theorem dX7_grow_40 : decode cX7_grow 40 = .ok (.invokevirtual 116, 3) := e_182 (x := 0) (y := 116) drcX7_grow_0 40 rfl rfl
theorem dX7_grow_43 : decode cX7_grow 43 = .ok (.arraylength, 1) := dec_190 (gB drcX7_grow_0 43 rfl rfl)
theorem dX7_grow_44 : decode cX7_grow 44 = .ok (.imul, 1) := dec_104 (gB drcX7_grow_0 44 rfl rfl)
theorem dX7_grow_45 : decode cX7_grow 45 = .ok (.aload_n 0, 1) := dec_42 (gB drcX7_grow_0 45 rfl rfl)
theorem dX7_grow_46 : decode cX7_grow 46 = .ok (.iload_n 1, 1) := dec_27 (gB drcX7_grow_0 46 rfl rfl)
theorem dX7_grow_47 : decode cX7_grow 47 = .ok (.invokevirtual 133, 3) := e_182 (x := 0) (y := 133) drcX7_grow_0 47 rfl rfl
theorem dX7_grow_50 : decode cX7_grow 50 = .ok (.arraylength, 1) := dec_190 (gB drcX7_grow_0 50 rfl rfl)
theorem dX7_grow_51 : decode cX7_grow 51 = .ok (.iadd, 1) := dec_96 (gB drcX7_grow_0 51 rfl rfl)
theorem dX7_grow_52 : decode cX7_grow 52 = .ok (.istore_n 3, 1) := dec_62 (gB drcX7_grow_0 52 rfl rfl)
theorem dX7_grow_53 : decode cX7_grow 53 = .ok (.iload_n 3, 1) := dec_29 (gB drcX7_grow_0 53 rfl rfl)
theorem dX7_grow_54 : decode cX7_grow 54 = .ok (.bipush 64, 2) := e_16 (x := 64) drcX7_grow_0 54 rfl rfl
theorem dX7_grow_56 : decode cX7_grow 56 = .ok (.if_icmp .le 8, 3) := e_164 (x := 0) (y := 8) drcX7_grow_0 56 rfl rfl
theorem dX7_grow_59 : decode cX7_grow 59 = .ok (.aload_n 0, 1) := dec_42 (gB drcX7_grow_0 59 rfl rfl)
theorem dX7_grow_60 : decode cX7_grow 60 = .ok (.invokevirtual 63, 3) := e_182 (x := 0) (y := 63) drcX7_grow_0 60 rfl rfl
theorem dX7_grow_63 : decode cX7_grow 63 = .ok (.ireturn, 1) := dec_172 (gB drcX7_grow_0 63 rfl rfl)
theorem dX7_grow_64 : decode cX7_grow 64 = .ok (.aload_n 0, 1) := dec_42 (gB drcX7_grow_1 0 rfl rfl)
theorem dX7_grow_65 : decode cX7_grow 65 = .ok (.getfield 15, 3) := e_180 (x := 0) (y := 15) drcX7_grow_1 1 rfl rfl
theorem dX7_grow_68 : decode cX7_grow 68 = .ok (.iload_n 1, 1) := dec_27 (gB drcX7_grow_1 4 rfl rfl)
theorem dX7_grow_69 : decode cX7_grow 69 = .ok (.aaload, 1) := dec_50 (gB drcX7_grow_1 5 rfl rfl)
theorem dX7_grow_70 : decode cX7_grow 70 = .ok (.aload_n 0, 1) := dec_42 (gB drcX7_grow_1 6 rfl rfl)
theorem dX7_grow_71 : decode cX7_grow 71 = .ok (.getfield 18, 3) := e_180 (x := 0) (y := 18) drcX7_grow_1 7 rfl rfl
theorem dX7_grow_74 : decode cX7_grow 74 = .ok (.iload_n 1, 1) := dec_27 (gB drcX7_grow_1 10 rfl rfl)
theorem dX7_grow_75 : decode cX7_grow 75 = .ok (.iaload, 1) := dec_46 (gB drcX7_grow_1 11 rfl rfl)
theorem dX7_grow_76 : decode cX7_grow 76 = .ok (.iload_n 2, 1) := dec_28 (gB drcX7_grow_1 12 rfl rfl)
theorem dX7_grow_77 : decode cX7_grow 77 = .ok (.iastore, 1) := dec_79 (gB drcX7_grow_1 13 rfl rfl)
theorem dX7_grow_78 : decode cX7_grow 78 = .ok (.aload_n 0, 1) := dec_42 (gB drcX7_grow_1 14 rfl rfl)
theorem dX7_grow_79 : decode cX7_grow 79 = .ok (.getfield 18, 3) := e_180 (x := 0) (y := 18) drcX7_grow_1 15 rfl rfl
theorem dX7_grow_82 : decode cX7_grow 82 = .ok (.iload_n 1, 1) := dec_27 (gB drcX7_grow_1 18 rfl rfl)
theorem dX7_grow_83 : decode cX7_grow 83 = .ok (.dup2, 1) := dec_92 (gB drcX7_grow_1 19 rfl rfl)
theorem dX7_grow_84 : decode cX7_grow 84 = .ok (.iaload, 1) := dec_46 (gB drcX7_grow_1 20 rfl rfl)
theorem dX7_grow_85 : decode cX7_grow 85 = .ok (.iconst 1, 1) := dec_4 (gB drcX7_grow_1 21 rfl rfl)
theorem dX7_grow_86 : decode cX7_grow 86 = .ok (.iadd, 1) := dec_96 (gB drcX7_grow_1 22 rfl rfl)
theorem dX7_grow_87 : decode cX7_grow 87 = .ok (.iastore, 1) := dec_79 (gB drcX7_grow_1 23 rfl rfl)
theorem dX7_grow_88 : decode cX7_grow 88 = .ok (.aload_n 0, 1) := dec_42 (gB drcX7_grow_1 24 rfl rfl)
theorem dX7_grow_89 : decode cX7_grow 89 = .ok (.dup, 1) := dec_89 (gB drcX7_grow_1 25 rfl rfl)
theorem dX7_grow_90 : decode cX7_grow 90 = .ok (.getfield 136, 3) := e_180 (x := 0) (y := 136) drcX7_grow_1 26 rfl rfl
theorem dX7_grow_93 : decode cX7_grow 93 = .ok (.iconst 1, 1) := dec_4 (gB drcX7_grow_1 29 rfl rfl)
theorem dX7_grow_94 : decode cX7_grow 94 = .ok (.iadd, 1) := dec_96 (gB drcX7_grow_1 30 rfl rfl)
theorem dX7_grow_95 : decode cX7_grow 95 = .ok (.putfield 136, 3) := e_181 (x := 0) (y := 136) drcX7_grow_1 31 rfl rfl
theorem dX7_grow_98 : decode cX7_grow 98 = .ok (.iload_n 3, 1) := dec_29 (gB drcX7_grow_1 34 rfl rfl)
theorem dX7_grow_99 : decode cX7_grow 99 = .ok (.ireturn, 1) := dec_172 (gB drcX7_grow_1 35 rfl rfl)
def lkcX7_shrink_0 : List UInt8 := [0x2a, 0x1b, 0xb8, 0x00, 0x71, 0x04, 0xb6, 0x00, 0x33, 0x9a, 0x00, 0x19, 0x2a, 0x2a, 0xb4, 0x00, 0x12, 0x1b, 0x2e, 0x9a, 0x00, 0x07, 0x04, 0xa7, 0x00, 0x04, 0x03, 0x05, 0xb6, 0x00, 0x19, 0x99, 0x00, 0x05, 0x03, 0xac, 0x2a, 0xb4, 0x00, 0x12, 0x1b, 0x5c, 0x2e, 0x04, 0x64, 0x4f, 0x2a, 0x59, 0xb4, 0x00, 0x88, 0x04, 0x60, 0xb5, 0x00, 0x88, 0x2a, 0xb4, 0x00, 0x0f, 0x1b, 0x32, 0x2a, 0xb4]
def lkcX7_shrink_1 : List UInt8 := [0x00, 0x12, 0x1b, 0x2e, 0x2e, 0xac]
def tkcX7_shrink_1 : List UInt8 := lkcX7_shrink_1 ++ []
def tkcX7_shrink_0 : List UInt8 := lkcX7_shrink_0 ++ tkcX7_shrink_1
theorem drcX7_shrink_0 : (cX7_shrink).data.toList.drop 0 = lkcX7_shrink_0 ++ tkcX7_shrink_1 := by decide +kernel
theorem drcX7_shrink_1 : (cX7_shrink).data.toList.drop 64 = lkcX7_shrink_1 ++ [] := dr_step drcX7_shrink_0 rfl
theorem dX7_shrink_0 : decode cX7_shrink 0 = .ok (.aload_n 0, 1) := dec_42 (gB drcX7_shrink_0 0 rfl rfl)
theorem dX7_shrink_1 : decode cX7_shrink 1 = .ok (.iload_n 1, 1) := dec_27 (gB drcX7_shrink_0 1 rfl rfl)
theorem dX7_shrink_2 : decode cX7_shrink 2 = .ok (.invokestatic 113, 3) := e_184 (x := 0) (y := 113) drcX7_shrink_0 2 rfl rfl
theorem dX7_shrink_5 : decode cX7_shrink 5 = .ok (.iconst 1, 1) := dec_4 (gB drcX7_shrink_0 5 rfl rfl)
theorem dX7_shrink_6 : decode cX7_shrink 6 = .ok (.invokevirtual 51, 3) := e_182 (x := 0) (y := 51) drcX7_shrink_0 6 rfl rfl
theorem dX7_shrink_9 : decode cX7_shrink 9 = .ok (.ifCond .ne 25, 3) := e_154 (x := 0) (y := 25) drcX7_shrink_0 9 rfl rfl
theorem dX7_shrink_12 : decode cX7_shrink 12 = .ok (.aload_n 0, 1) := dec_42 (gB drcX7_shrink_0 12 rfl rfl)
theorem dX7_shrink_13 : decode cX7_shrink 13 = .ok (.aload_n 0, 1) := dec_42 (gB drcX7_shrink_0 13 rfl rfl)
theorem dX7_shrink_14 : decode cX7_shrink 14 = .ok (.getfield 18, 3) := e_180 (x := 0) (y := 18) drcX7_shrink_0 14 rfl rfl
theorem dX7_shrink_17 : decode cX7_shrink 17 = .ok (.iload_n 1, 1) := dec_27 (gB drcX7_shrink_0 17 rfl rfl)
theorem dX7_shrink_18 : decode cX7_shrink 18 = .ok (.iaload, 1) := dec_46 (gB drcX7_shrink_0 18 rfl rfl)
theorem dX7_shrink_19 : decode cX7_shrink 19 = .ok (.ifCond .ne 7, 3) := e_154 (x := 0) (y := 7) drcX7_shrink_0 19 rfl rfl
theorem dX7_shrink_22 : decode cX7_shrink 22 = .ok (.iconst 1, 1) := dec_4 (gB drcX7_shrink_0 22 rfl rfl)
theorem dX7_shrink_23 : decode cX7_shrink 23 = .ok (.goto 4, 3) := e_167 (x := 0) (y := 4) drcX7_shrink_0 23 rfl rfl
theorem dX7_shrink_26 : decode cX7_shrink 26 = .ok (.iconst 0, 1) := dec_3 (gB drcX7_shrink_0 26 rfl rfl)
theorem dX7_shrink_27 : decode cX7_shrink 27 = .ok (.iconst 2, 1) := dec_5 (gB drcX7_shrink_0 27 rfl rfl)
theorem dX7_shrink_28 : decode cX7_shrink 28 = .ok (.invokevirtual 25, 3) := e_182 (x := 0) (y := 25) drcX7_shrink_0 28 rfl rfl
theorem dX7_shrink_31 : decode cX7_shrink 31 = .ok (.ifCond .eq 5, 3) := e_153 (x := 0) (y := 5) drcX7_shrink_0 31 rfl rfl
theorem dX7_shrink_34 : decode cX7_shrink 34 = .ok (.iconst 0, 1) := dec_3 (gB drcX7_shrink_0 34 rfl rfl)
theorem dX7_shrink_35 : decode cX7_shrink 35 = .ok (.ireturn, 1) := dec_172 (gB drcX7_shrink_0 35 rfl rfl)
theorem dX7_shrink_36 : decode cX7_shrink 36 = .ok (.aload_n 0, 1) := dec_42 (gB drcX7_shrink_0 36 rfl rfl)
theorem dX7_shrink_37 : decode cX7_shrink 37 = .ok (.getfield 18, 3) := e_180 (x := 0) (y := 18) drcX7_shrink_0 37 rfl rfl
theorem dX7_shrink_40 : decode cX7_shrink 40 = .ok (.iload_n 1, 1) := dec_27 (gB drcX7_shrink_0 40 rfl rfl)
theorem dX7_shrink_41 : decode cX7_shrink 41 = .ok (.dup2, 1) := dec_92 (gB drcX7_shrink_0 41 rfl rfl)
theorem dX7_shrink_42 : decode cX7_shrink 42 = .ok (.iaload, 1) := dec_46 (gB drcX7_shrink_0 42 rfl rfl)
theorem dX7_shrink_43 : decode cX7_shrink 43 = .ok (.iconst 1, 1) := dec_4 (gB drcX7_shrink_0 43 rfl rfl)
theorem dX7_shrink_44 : decode cX7_shrink 44 = .ok (.isub, 1) := dec_100 (gB drcX7_shrink_0 44 rfl rfl)
theorem dX7_shrink_45 : decode cX7_shrink 45 = .ok (.iastore, 1) := dec_79 (gB drcX7_shrink_0 45 rfl rfl)
theorem dX7_shrink_46 : decode cX7_shrink 46 = .ok (.aload_n 0, 1) := dec_42 (gB drcX7_shrink_0 46 rfl rfl)
theorem dX7_shrink_47 : decode cX7_shrink 47 = .ok (.dup, 1) := dec_89 (gB drcX7_shrink_0 47 rfl rfl)
theorem dX7_shrink_48 : decode cX7_shrink 48 = .ok (.getfield 136, 3) := e_180 (x := 0) (y := 136) drcX7_shrink_0 48 rfl rfl
theorem dX7_shrink_51 : decode cX7_shrink 51 = .ok (.iconst 1, 1) := dec_4 (gB drcX7_shrink_0 51 rfl rfl)
theorem dX7_shrink_52 : decode cX7_shrink 52 = .ok (.iadd, 1) := dec_96 (gB drcX7_shrink_0 52 rfl rfl)
theorem dX7_shrink_53 : decode cX7_shrink 53 = .ok (.putfield 136, 3) := e_181 (x := 0) (y := 136) drcX7_shrink_0 53 rfl rfl
theorem dX7_shrink_56 : decode cX7_shrink 56 = .ok (.aload_n 0, 1) := dec_42 (gB drcX7_shrink_0 56 rfl rfl)
theorem dX7_shrink_57 : decode cX7_shrink 57 = .ok (.getfield 15, 3) := e_180 (x := 0) (y := 15) drcX7_shrink_0 57 rfl rfl
theorem dX7_shrink_60 : decode cX7_shrink 60 = .ok (.iload_n 1, 1) := dec_27 (gB drcX7_shrink_0 60 rfl rfl)
theorem dX7_shrink_61 : decode cX7_shrink 61 = .ok (.aaload, 1) := dec_50 (gB drcX7_shrink_0 61 rfl rfl)
theorem dX7_shrink_62 : decode cX7_shrink 62 = .ok (.aload_n 0, 1) := dec_42 (gB drcX7_shrink_0 62 rfl rfl)
theorem dX7_shrink_63 : decode cX7_shrink 63 = .ok (.getfield 18, 3) := dec_180 (a := 0) (b := 18) (gB drcX7_shrink_0 63 rfl rfl) (gB drcX7_shrink_1 0 rfl rfl) (gB drcX7_shrink_1 1 rfl rfl)
theorem dX7_shrink_66 : decode cX7_shrink 66 = .ok (.iload_n 1, 1) := dec_27 (gB drcX7_shrink_1 2 rfl rfl)
theorem dX7_shrink_67 : decode cX7_shrink 67 = .ok (.iaload, 1) := dec_46 (gB drcX7_shrink_1 3 rfl rfl)
theorem dX7_shrink_68 : decode cX7_shrink 68 = .ok (.iaload, 1) := dec_46 (gB drcX7_shrink_1 4 rfl rfl)
theorem dX7_shrink_69 : decode cX7_shrink 69 = .ok (.ireturn, 1) := dec_172 (gB drcX7_shrink_1 5 rfl rfl)
def lkcX7_fresh_0 : List UInt8 := [0x2a, 0x1b, 0xb8, 0x00, 0x71, 0x04, 0xb6, 0x00, 0x33, 0x99, 0x00, 0x05, 0x03, 0xac, 0x2a, 0xb4, 0x00, 0x12, 0x1b, 0x2e, 0x3d, 0x2a, 0xb4, 0x00, 0x12, 0x1b, 0x03, 0x4f, 0x2a, 0x59, 0xb4, 0x00, 0x88, 0x04, 0x60, 0xb5, 0x00, 0x88, 0x1c, 0xac]
def tkcX7_fresh_0 : List UInt8 := lkcX7_fresh_0 ++ []
theorem drcX7_fresh_0 : (cX7_fresh).data.toList.drop 0 = lkcX7_fresh_0 ++ [] := by decide +kernel
theorem dX7_fresh_0 : decode cX7_fresh 0 = .ok (.aload_n 0, 1) := dec_42 (gB drcX7_fresh_0 0 rfl rfl)
theorem dX7_fresh_1 : decode cX7_fresh 1 = .ok (.iload_n 1, 1) := dec_27 (gB drcX7_fresh_0 1 rfl rfl)
theorem dX7_fresh_2 : decode cX7_fresh 2 = .ok (.invokestatic 113, 3) := e_184 (x := 0) (y := 113) drcX7_fresh_0 2 rfl rfl
theorem dX7_fresh_5 : decode cX7_fresh 5 = .ok (.iconst 1, 1) := dec_4 (gB drcX7_fresh_0 5 rfl rfl)
theorem dX7_fresh_6 : decode cX7_fresh 6 = .ok (.invokevirtual 51, 3) := e_182 (x := 0) (y := 51) drcX7_fresh_0 6 rfl rfl
theorem dX7_fresh_9 : decode cX7_fresh 9 = .ok (.ifCond .eq 5, 3) := e_153 (x := 0) (y := 5) drcX7_fresh_0 9 rfl rfl
theorem dX7_fresh_12 : decode cX7_fresh 12 = .ok (.iconst 0, 1) := dec_3 (gB drcX7_fresh_0 12 rfl rfl)
theorem dX7_fresh_13 : decode cX7_fresh 13 = .ok (.ireturn, 1) := dec_172 (gB drcX7_fresh_0 13 rfl rfl)
theorem dX7_fresh_14 : decode cX7_fresh 14 = .ok (.aload_n 0, 1) := dec_42 (gB drcX7_fresh_0 14 rfl rfl)
theorem dX7_fresh_15 : decode cX7_fresh 15 = .ok (.getfield 18, 3) := e_180 (x := 0) (y := 18) drcX7_fresh_0 15 rfl rfl
theorem dX7_fresh_18 : decode cX7_fresh 18 = .ok (.iload_n 1, 1) := dec_27 (gB drcX7_fresh_0 18 rfl rfl)
theorem dX7_fresh_19 : decode cX7_fresh 19 = .ok (.iaload, 1) := dec_46 (gB drcX7_fresh_0 19 rfl rfl)
theorem dX7_fresh_20 : decode cX7_fresh 20 = .ok (.istore_n 2, 1) := dec_61 (gB drcX7_fresh_0 20 rfl rfl)
theorem dX7_fresh_21 : decode cX7_fresh 21 = .ok (.aload_n 0, 1) := dec_42 (gB drcX7_fresh_0 21 rfl rfl)
theorem dX7_fresh_22 : decode cX7_fresh 22 = .ok (.getfield 18, 3) := e_180 (x := 0) (y := 18) drcX7_fresh_0 22 rfl rfl
theorem dX7_fresh_25 : decode cX7_fresh 25 = .ok (.iload_n 1, 1) := dec_27 (gB drcX7_fresh_0 25 rfl rfl)
theorem dX7_fresh_26 : decode cX7_fresh 26 = .ok (.iconst 0, 1) := dec_3 (gB drcX7_fresh_0 26 rfl rfl)
theorem dX7_fresh_27 : decode cX7_fresh 27 = .ok (.iastore, 1) := dec_79 (gB drcX7_fresh_0 27 rfl rfl)
theorem dX7_fresh_28 : decode cX7_fresh 28 = .ok (.aload_n 0, 1) := dec_42 (gB drcX7_fresh_0 28 rfl rfl)
theorem dX7_fresh_29 : decode cX7_fresh 29 = .ok (.dup, 1) := dec_89 (gB drcX7_fresh_0 29 rfl rfl)
theorem dX7_fresh_30 : decode cX7_fresh 30 = .ok (.getfield 136, 3) := e_180 (x := 0) (y := 136) drcX7_fresh_0 30 rfl rfl
theorem dX7_fresh_33 : decode cX7_fresh 33 = .ok (.iconst 1, 1) := dec_4 (gB drcX7_fresh_0 33 rfl rfl)
theorem dX7_fresh_34 : decode cX7_fresh 34 = .ok (.iadd, 1) := dec_96 (gB drcX7_fresh_0 34 rfl rfl)
theorem dX7_fresh_35 : decode cX7_fresh 35 = .ok (.putfield 136, 3) := e_181 (x := 0) (y := 136) drcX7_fresh_0 35 rfl rfl
theorem dX7_fresh_38 : decode cX7_fresh 38 = .ok (.iload_n 2, 1) := dec_28 (gB drcX7_fresh_0 38 rfl rfl)
theorem dX7_fresh_39 : decode cX7_fresh 39 = .ok (.ireturn, 1) := dec_172 (gB drcX7_fresh_0 39 rfl rfl)
def lkcX7_length_0 : List UInt8 := [0x2a, 0x1b, 0xb8, 0x00, 0x21, 0x04, 0xb6, 0x00, 0x33, 0x99, 0x00, 0x07, 0x03, 0xa7, 0x00, 0x0a, 0x2a, 0xb4, 0x00, 0x09, 0x1b, 0x32, 0xbe, 0xac]
def tkcX7_length_0 : List UInt8 := lkcX7_length_0 ++ []
theorem drcX7_length_0 : (cX7_length).data.toList.drop 0 = lkcX7_length_0 ++ [] := by decide +kernel
theorem dX7_length_0 : decode cX7_length 0 = .ok (.aload_n 0, 1) := dec_42 (gB drcX7_length_0 0 rfl rfl)
theorem dX7_length_1 : decode cX7_length 1 = .ok (.iload_n 1, 1) := dec_27 (gB drcX7_length_0 1 rfl rfl)
theorem dX7_length_2 : decode cX7_length 2 = .ok (.invokestatic 33, 3) := e_184 (x := 0) (y := 33) drcX7_length_0 2 rfl rfl
theorem dX7_length_5 : decode cX7_length 5 = .ok (.iconst 1, 1) := dec_4 (gB drcX7_length_0 5 rfl rfl)
theorem dX7_length_6 : decode cX7_length 6 = .ok (.invokevirtual 51, 3) := e_182 (x := 0) (y := 51) drcX7_length_0 6 rfl rfl
theorem dX7_length_9 : decode cX7_length 9 = .ok (.ifCond .eq 7, 3) := e_153 (x := 0) (y := 7) drcX7_length_0 9 rfl rfl
theorem dX7_length_12 : decode cX7_length 12 = .ok (.iconst 0, 1) := dec_3 (gB drcX7_length_0 12 rfl rfl)
theorem dX7_length_13 : decode cX7_length 13 = .ok (.goto 10, 3) := e_167 (x := 0) (y := 10) drcX7_length_0 13 rfl rfl
theorem dX7_length_16 : decode cX7_length 16 = .ok (.aload_n 0, 1) := dec_42 (gB drcX7_length_0 16 rfl rfl)
theorem dX7_length_17 : decode cX7_length 17 = .ok (.getfield 9, 3) := e_180 (x := 0) (y := 9) drcX7_length_0 17 rfl rfl
theorem dX7_length_20 : decode cX7_length 20 = .ok (.iload_n 1, 1) := dec_27 (gB drcX7_length_0 20 rfl rfl)
theorem dX7_length_21 : decode cX7_length 21 = .ok (.aaload, 1) := dec_50 (gB drcX7_length_0 21 rfl rfl)
theorem dX7_length_22 : decode cX7_length 22 = .ok (.arraylength, 1) := dec_190 (gB drcX7_length_0 22 rfl rfl)
theorem dX7_length_23 : decode cX7_length 23 = .ok (.ireturn, 1) := dec_172 (gB drcX7_length_0 23 rfl rfl)
def lkcX7_isB_0 : List UInt8 := [0x2a, 0x2a, 0x1b, 0x1c, 0xb6, 0x00, 0x53, 0x04, 0xb6, 0x00, 0x33, 0x9a, 0x00, 0x13, 0x2a, 0xb4, 0x00, 0x09, 0x1b, 0x32, 0x1c, 0x2e, 0x04, 0xa0, 0x00, 0x07, 0x04, 0xa7, 0x00, 0x04, 0x03, 0xac]
def tkcX7_isB_0 : List UInt8 := lkcX7_isB_0 ++ []
theorem drcX7_isB_0 : (cX7_isB).data.toList.drop 0 = lkcX7_isB_0 ++ [] := by decide +kernel
theorem dX7_isB_0 : decode cX7_isB 0 = .ok (.aload_n 0, 1) := dec_42 (gB drcX7_isB_0 0 rfl rfl)
theorem dX7_isB_1 : decode cX7_isB 1 = .ok (.aload_n 0, 1) := dec_42 (gB drcX7_isB_0 1 rfl rfl)
theorem dX7_isB_2 : decode cX7_isB 2 = .ok (.iload_n 1, 1) := dec_27 (gB drcX7_isB_0 2 rfl rfl)
theorem dX7_isB_3 : decode cX7_isB 3 = .ok (.iload_n 2, 1) := dec_28 (gB drcX7_isB_0 3 rfl rfl)
theorem dX7_isB_4 : decode cX7_isB 4 = .ok (.invokevirtual 83, 3) := e_182 (x := 0) (y := 83) drcX7_isB_0 4 rfl rfl
theorem dX7_isB_7 : decode cX7_isB 7 = .ok (.iconst 1, 1) := dec_4 (gB drcX7_isB_0 7 rfl rfl)
theorem dX7_isB_8 : decode cX7_isB 8 = .ok (.invokevirtual 51, 3) := e_182 (x := 0) (y := 51) drcX7_isB_0 8 rfl rfl
theorem dX7_isB_11 : decode cX7_isB 11 = .ok (.ifCond .ne 19, 3) := e_154 (x := 0) (y := 19) drcX7_isB_0 11 rfl rfl
theorem dX7_isB_14 : decode cX7_isB 14 = .ok (.aload_n 0, 1) := dec_42 (gB drcX7_isB_0 14 rfl rfl)
theorem dX7_isB_15 : decode cX7_isB 15 = .ok (.getfield 9, 3) := e_180 (x := 0) (y := 9) drcX7_isB_0 15 rfl rfl
theorem dX7_isB_18 : decode cX7_isB 18 = .ok (.iload_n 1, 1) := dec_27 (gB drcX7_isB_0 18 rfl rfl)
theorem dX7_isB_19 : decode cX7_isB 19 = .ok (.aaload, 1) := dec_50 (gB drcX7_isB_0 19 rfl rfl)
theorem dX7_isB_20 : decode cX7_isB 20 = .ok (.iload_n 2, 1) := dec_28 (gB drcX7_isB_0 20 rfl rfl)
theorem dX7_isB_21 : decode cX7_isB 21 = .ok (.iaload, 1) := dec_46 (gB drcX7_isB_0 21 rfl rfl)
theorem dX7_isB_22 : decode cX7_isB 22 = .ok (.iconst 1, 1) := dec_4 (gB drcX7_isB_0 22 rfl rfl)
theorem dX7_isB_23 : decode cX7_isB 23 = .ok (.if_icmp .ne 7, 3) := e_160 (x := 0) (y := 7) drcX7_isB_0 23 rfl rfl
theorem dX7_isB_26 : decode cX7_isB 26 = .ok (.iconst 1, 1) := dec_4 (gB drcX7_isB_0 26 rfl rfl)
theorem dX7_isB_27 : decode cX7_isB 27 = .ok (.goto 4, 3) := e_167 (x := 0) (y := 4) drcX7_isB_0 27 rfl rfl
theorem dX7_isB_30 : decode cX7_isB 30 = .ok (.iconst 0, 1) := dec_3 (gB drcX7_isB_0 30 rfl rfl)
theorem dX7_isB_31 : decode cX7_isB 31 = .ok (.ireturn, 1) := dec_172 (gB drcX7_isB_0 31 rfl rfl)
def lkcX7_textOf_0 : List UInt8 := [0xbb, 0x00, 0x8b, 0x59, 0xb7, 0x00, 0x8d, 0x4c, 0x2a, 0x4d, 0x2c, 0xbe, 0x3e, 0x03, 0x36, 0x04, 0x15, 0x04, 0x1d, 0xa2, 0x00, 0x21, 0x2c, 0x15, 0x04, 0x2e, 0x36, 0x05, 0x2b, 0x15, 0x05, 0x04, 0xa0, 0x00, 0x08, 0x10, 0x62, 0xa7, 0x00, 0x05, 0x10, 0x61, 0xb6, 0x00, 0x8e, 0x57, 0x84, 0x04, 0x01, 0xa7, 0xff, 0xdf, 0x2b, 0xb6, 0x00, 0x92, 0xb0]
def tkcX7_textOf_0 : List UInt8 := lkcX7_textOf_0 ++ []
theorem drcX7_textOf_0 : (cX7_textOf).data.toList.drop 0 = lkcX7_textOf_0 ++ [] := by decide +kernel
theorem dX7_textOf_0 : decode cX7_textOf 0 = .ok (.new 139, 3) := e_187 (x := 0) (y := 139) drcX7_textOf_0 0 rfl rfl
theorem dX7_textOf_3 : decode cX7_textOf 3 = .ok (.dup, 1) := dec_89 (gB drcX7_textOf_0 3 rfl rfl)
theorem dX7_textOf_4 : decode cX7_textOf 4 = .ok (.invokespecial 141, 3) := e_183 (x := 0) (y := 141) drcX7_textOf_0 4 rfl rfl
theorem dX7_textOf_7 : decode cX7_textOf 7 = .ok (.astore_n 1, 1) := dec_76 (gB drcX7_textOf_0 7 rfl rfl)
theorem dX7_textOf_8 : decode cX7_textOf 8 = .ok (.aload_n 0, 1) := dec_42 (gB drcX7_textOf_0 8 rfl rfl)
theorem dX7_textOf_9 : decode cX7_textOf 9 = .ok (.astore_n 2, 1) := dec_77 (gB drcX7_textOf_0 9 rfl rfl)
theorem dX7_textOf_10 : decode cX7_textOf 10 = .ok (.aload_n 2, 1) := dec_44 (gB drcX7_textOf_0 10 rfl rfl)
theorem dX7_textOf_11 : decode cX7_textOf 11 = .ok (.arraylength, 1) := dec_190 (gB drcX7_textOf_0 11 rfl rfl)
theorem dX7_textOf_12 : decode cX7_textOf 12 = .ok (.istore_n 3, 1) := dec_62 (gB drcX7_textOf_0 12 rfl rfl)
theorem dX7_textOf_13 : decode cX7_textOf 13 = .ok (.iconst 0, 1) := dec_3 (gB drcX7_textOf_0 13 rfl rfl)
theorem dX7_textOf_14 : decode cX7_textOf 14 = .ok (.istore 4, 2) := e_54 (x := 4) drcX7_textOf_0 14 rfl rfl
theorem dX7_textOf_16 : decode cX7_textOf 16 = .ok (.iload 4, 2) := e_21 (x := 4) drcX7_textOf_0 16 rfl rfl
theorem dX7_textOf_18 : decode cX7_textOf 18 = .ok (.iload_n 3, 1) := dec_29 (gB drcX7_textOf_0 18 rfl rfl)
theorem dX7_textOf_19 : decode cX7_textOf 19 = .ok (.if_icmp .ge 33, 3) := e_162 (x := 0) (y := 33) drcX7_textOf_0 19 rfl rfl
theorem dX7_textOf_22 : decode cX7_textOf 22 = .ok (.aload_n 2, 1) := dec_44 (gB drcX7_textOf_0 22 rfl rfl)
theorem dX7_textOf_23 : decode cX7_textOf 23 = .ok (.iload 4, 2) := e_21 (x := 4) drcX7_textOf_0 23 rfl rfl
theorem dX7_textOf_25 : decode cX7_textOf 25 = .ok (.iaload, 1) := dec_46 (gB drcX7_textOf_0 25 rfl rfl)
theorem dX7_textOf_26 : decode cX7_textOf 26 = .ok (.istore 5, 2) := e_54 (x := 5) drcX7_textOf_0 26 rfl rfl
theorem dX7_textOf_28 : decode cX7_textOf 28 = .ok (.aload_n 1, 1) := dec_43 (gB drcX7_textOf_0 28 rfl rfl)
theorem dX7_textOf_29 : decode cX7_textOf 29 = .ok (.iload 5, 2) := e_21 (x := 5) drcX7_textOf_0 29 rfl rfl
theorem dX7_textOf_31 : decode cX7_textOf 31 = .ok (.iconst 1, 1) := dec_4 (gB drcX7_textOf_0 31 rfl rfl)
theorem dX7_textOf_32 : decode cX7_textOf 32 = .ok (.if_icmp .ne 8, 3) := e_160 (x := 0) (y := 8) drcX7_textOf_0 32 rfl rfl
theorem dX7_textOf_35 : decode cX7_textOf 35 = .ok (.bipush 98, 2) := e_16 (x := 98) drcX7_textOf_0 35 rfl rfl
theorem dX7_textOf_37 : decode cX7_textOf 37 = .ok (.goto 5, 3) := e_167 (x := 0) (y := 5) drcX7_textOf_0 37 rfl rfl
theorem dX7_textOf_40 : decode cX7_textOf 40 = .ok (.bipush 97, 2) := e_16 (x := 97) drcX7_textOf_0 40 rfl rfl
theorem dX7_textOf_42 : decode cX7_textOf 42 = .ok (.invokevirtual 142, 3) := e_182 (x := 0) (y := 142) drcX7_textOf_0 42 rfl rfl
theorem dX7_textOf_45 : decode cX7_textOf 45 = .ok (.pop, 1) := dec_87 (gB drcX7_textOf_0 45 rfl rfl)
theorem dX7_textOf_46 : decode cX7_textOf 46 = .ok (.iinc 4 1, 3) := e_132 (x := 4) (y := 1) drcX7_textOf_0 46 rfl rfl
theorem dX7_textOf_49 : decode cX7_textOf 49 = .ok (.goto (-33), 3) := e_167 (x := 255) (y := 223) drcX7_textOf_0 49 rfl rfl
theorem dX7_textOf_52 : decode cX7_textOf 52 = .ok (.aload_n 1, 1) := dec_43 (gB drcX7_textOf_0 52 rfl rfl)
theorem dX7_textOf_53 : decode cX7_textOf 53 = .ok (.invokevirtual 146, 3) := e_182 (x := 0) (y := 146) drcX7_textOf_0 53 rfl rfl
theorem dX7_textOf_56 : decode cX7_textOf 56 = .ok (.areturn, 1) := dec_176 (gB drcX7_textOf_0 56 rfl rfl)
def lkcX7_text_0 : List UInt8 := [0x2a, 0x1b, 0xb8, 0x00, 0x21, 0x04, 0xb6, 0x00, 0x33, 0x99, 0x00, 0x08, 0x12, 0x96, 0xa7, 0x00, 0x0c, 0x2a, 0xb4, 0x00, 0x09, 0x1b, 0x32, 0xb8, 0x00, 0x98, 0xb0]
def tkcX7_text_0 : List UInt8 := lkcX7_text_0 ++ []
theorem drcX7_text_0 : (cX7_text).data.toList.drop 0 = lkcX7_text_0 ++ [] := by decide +kernel
theorem dX7_text_0 : decode cX7_text 0 = .ok (.aload_n 0, 1) := dec_42 (gB drcX7_text_0 0 rfl rfl)
theorem dX7_text_1 : decode cX7_text 1 = .ok (.iload_n 1, 1) := dec_27 (gB drcX7_text_0 1 rfl rfl)
theorem dX7_text_2 : decode cX7_text 2 = .ok (.invokestatic 33, 3) := e_184 (x := 0) (y := 33) drcX7_text_0 2 rfl rfl
theorem dX7_text_5 : decode cX7_text 5 = .ok (.iconst 1, 1) := dec_4 (gB drcX7_text_0 5 rfl rfl)
theorem dX7_text_6 : decode cX7_text 6 = .ok (.invokevirtual 51, 3) := e_182 (x := 0) (y := 51) drcX7_text_0 6 rfl rfl
theorem dX7_text_9 : decode cX7_text 9 = .ok (.ifCond .eq 8, 3) := e_153 (x := 0) (y := 8) drcX7_text_0 9 rfl rfl
theorem dX7_text_12 : decode cX7_text 12 = .ok (.ldc 150, 2) := e_18 (x := 150) drcX7_text_0 12 rfl rfl
theorem dX7_text_14 : decode cX7_text 14 = .ok (.goto 12, 3) := e_167 (x := 0) (y := 12) drcX7_text_0 14 rfl rfl
theorem dX7_text_17 : decode cX7_text 17 = .ok (.aload_n 0, 1) := dec_42 (gB drcX7_text_0 17 rfl rfl)
theorem dX7_text_18 : decode cX7_text 18 = .ok (.getfield 9, 3) := e_180 (x := 0) (y := 9) drcX7_text_0 18 rfl rfl
theorem dX7_text_21 : decode cX7_text 21 = .ok (.iload_n 1, 1) := dec_27 (gB drcX7_text_0 21 rfl rfl)
theorem dX7_text_22 : decode cX7_text 22 = .ok (.aaload, 1) := dec_50 (gB drcX7_text_0 22 rfl rfl)
theorem dX7_text_23 : decode cX7_text 23 = .ok (.invokestatic 152, 3) := e_184 (x := 0) (y := 152) drcX7_text_0 23 rfl rfl
theorem dX7_text_26 : decode cX7_text 26 = .ok (.areturn, 1) := dec_176 (gB drcX7_text_0 26 rfl rfl)
def lkcX7_count_0 : List UInt8 := [0x2a, 0x1b, 0xb8, 0x00, 0x21, 0x04, 0xb6, 0x00, 0x33, 0x99, 0x00, 0x05, 0x03, 0xac, 0x2a, 0xb4, 0x00, 0x09, 0x1b, 0x32, 0xb8, 0x00, 0x29, 0x3e, 0x1c, 0x99, 0x00, 0x07, 0x1d, 0xa7, 0x00, 0x0c, 0x2a, 0xb4, 0x00, 0x09, 0x1b, 0x32, 0xbe, 0x1d, 0x64, 0xac]
def tkcX7_count_0 : List UInt8 := lkcX7_count_0 ++ []
theorem drcX7_count_0 : (cX7_count).data.toList.drop 0 = lkcX7_count_0 ++ [] := by decide +kernel
theorem dX7_count_0 : decode cX7_count 0 = .ok (.aload_n 0, 1) := dec_42 (gB drcX7_count_0 0 rfl rfl)
theorem dX7_count_1 : decode cX7_count 1 = .ok (.iload_n 1, 1) := dec_27 (gB drcX7_count_0 1 rfl rfl)
theorem dX7_count_2 : decode cX7_count 2 = .ok (.invokestatic 33, 3) := e_184 (x := 0) (y := 33) drcX7_count_0 2 rfl rfl
theorem dX7_count_5 : decode cX7_count 5 = .ok (.iconst 1, 1) := dec_4 (gB drcX7_count_0 5 rfl rfl)
theorem dX7_count_6 : decode cX7_count 6 = .ok (.invokevirtual 51, 3) := e_182 (x := 0) (y := 51) drcX7_count_0 6 rfl rfl
theorem dX7_count_9 : decode cX7_count 9 = .ok (.ifCond .eq 5, 3) := e_153 (x := 0) (y := 5) drcX7_count_0 9 rfl rfl
theorem dX7_count_12 : decode cX7_count 12 = .ok (.iconst 0, 1) := dec_3 (gB drcX7_count_0 12 rfl rfl)
theorem dX7_count_13 : decode cX7_count 13 = .ok (.ireturn, 1) := dec_172 (gB drcX7_count_0 13 rfl rfl)
theorem dX7_count_14 : decode cX7_count 14 = .ok (.aload_n 0, 1) := dec_42 (gB drcX7_count_0 14 rfl rfl)
theorem dX7_count_15 : decode cX7_count 15 = .ok (.getfield 9, 3) := e_180 (x := 0) (y := 9) drcX7_count_0 15 rfl rfl
theorem dX7_count_18 : decode cX7_count 18 = .ok (.iload_n 1, 1) := dec_27 (gB drcX7_count_0 18 rfl rfl)
theorem dX7_count_19 : decode cX7_count 19 = .ok (.aaload, 1) := dec_50 (gB drcX7_count_0 19 rfl rfl)
theorem dX7_count_20 : decode cX7_count 20 = .ok (.invokestatic 41, 3) := e_184 (x := 0) (y := 41) drcX7_count_0 20 rfl rfl
theorem dX7_count_23 : decode cX7_count 23 = .ok (.istore_n 3, 1) := dec_62 (gB drcX7_count_0 23 rfl rfl)
theorem dX7_count_24 : decode cX7_count 24 = .ok (.iload_n 2, 1) := dec_28 (gB drcX7_count_0 24 rfl rfl)
theorem dX7_count_25 : decode cX7_count 25 = .ok (.ifCond .eq 7, 3) := e_153 (x := 0) (y := 7) drcX7_count_0 25 rfl rfl
theorem dX7_count_28 : decode cX7_count 28 = .ok (.iload_n 3, 1) := dec_29 (gB drcX7_count_0 28 rfl rfl)
theorem dX7_count_29 : decode cX7_count 29 = .ok (.goto 12, 3) := e_167 (x := 0) (y := 12) drcX7_count_0 29 rfl rfl
theorem dX7_count_32 : decode cX7_count 32 = .ok (.aload_n 0, 1) := dec_42 (gB drcX7_count_0 32 rfl rfl)
theorem dX7_count_33 : decode cX7_count 33 = .ok (.getfield 9, 3) := e_180 (x := 0) (y := 9) drcX7_count_0 33 rfl rfl
theorem dX7_count_36 : decode cX7_count 36 = .ok (.iload_n 1, 1) := dec_27 (gB drcX7_count_0 36 rfl rfl)
theorem dX7_count_37 : decode cX7_count 37 = .ok (.aaload, 1) := dec_50 (gB drcX7_count_0 37 rfl rfl)
theorem dX7_count_38 : decode cX7_count 38 = .ok (.arraylength, 1) := dec_190 (gB drcX7_count_0 38 rfl rfl)
theorem dX7_count_39 : decode cX7_count 39 = .ok (.iload_n 3, 1) := dec_29 (gB drcX7_count_0 39 rfl rfl)
theorem dX7_count_40 : decode cX7_count 40 = .ok (.isub, 1) := dec_100 (gB drcX7_count_0 40 rfl rfl)
theorem dX7_count_41 : decode cX7_count 41 = .ok (.ireturn, 1) := dec_172 (gB drcX7_count_0 41 rfl rfl)
def lkcX7_find_0 : List UInt8 := [0x2a, 0x2a, 0x1b, 0x1d, 0xb6, 0x00, 0x4b, 0x9a, 0x00, 0x0a, 0x1c, 0xb8, 0x00, 0x21, 0x99, 0x00, 0x07, 0x04, 0xa7, 0x00, 0x04, 0x03, 0x04, 0xb6, 0x00, 0x33, 0x99, 0x00, 0x05, 0x03, 0xac, 0x1d, 0x36, 0x04, 0x15, 0x04, 0x2a, 0xb4, 0x00, 0x09, 0x1b, 0x32, 0xbe, 0xa3, 0x00, 0x20, 0x2a, 0xb4, 0x00, 0x09, 0x1b, 0x32, 0x2a, 0xb4, 0x00, 0x09, 0x1c, 0x32, 0x15, 0x04, 0xb8, 0x00, 0x25, 0x99]
def lkcX7_find_1 : List UInt8 := [0x00, 0x06, 0x15, 0x04, 0xac, 0x84, 0x04, 0x01, 0xa7, 0xff, 0xda, 0x02, 0xac]
def tkcX7_find_1 : List UInt8 := lkcX7_find_1 ++ []
def tkcX7_find_0 : List UInt8 := lkcX7_find_0 ++ tkcX7_find_1
theorem drcX7_find_0 : (cX7_find).data.toList.drop 0 = lkcX7_find_0 ++ tkcX7_find_1 := by decide +kernel
theorem drcX7_find_1 : (cX7_find).data.toList.drop 64 = lkcX7_find_1 ++ [] := dr_step drcX7_find_0 rfl
theorem dX7_find_0 : decode cX7_find 0 = .ok (.aload_n 0, 1) := dec_42 (gB drcX7_find_0 0 rfl rfl)
theorem dX7_find_1 : decode cX7_find 1 = .ok (.aload_n 0, 1) := dec_42 (gB drcX7_find_0 1 rfl rfl)
theorem dX7_find_2 : decode cX7_find 2 = .ok (.iload_n 1, 1) := dec_27 (gB drcX7_find_0 2 rfl rfl)
theorem dX7_find_3 : decode cX7_find 3 = .ok (.iload_n 3, 1) := dec_29 (gB drcX7_find_0 3 rfl rfl)
theorem dX7_find_4 : decode cX7_find 4 = .ok (.invokevirtual 75, 3) := e_182 (x := 0) (y := 75) drcX7_find_0 4 rfl rfl
theorem dX7_find_7 : decode cX7_find 7 = .ok (.ifCond .ne 10, 3) := e_154 (x := 0) (y := 10) drcX7_find_0 7 rfl rfl
theorem dX7_find_10 : decode cX7_find 10 = .ok (.iload_n 2, 1) := dec_28 (gB drcX7_find_0 10 rfl rfl)
theorem dX7_find_11 : decode cX7_find 11 = .ok (.invokestatic 33, 3) := e_184 (x := 0) (y := 33) drcX7_find_0 11 rfl rfl
theorem dX7_find_14 : decode cX7_find 14 = .ok (.ifCond .eq 7, 3) := e_153 (x := 0) (y := 7) drcX7_find_0 14 rfl rfl
theorem dX7_find_17 : decode cX7_find 17 = .ok (.iconst 1, 1) := dec_4 (gB drcX7_find_0 17 rfl rfl)
theorem dX7_find_18 : decode cX7_find 18 = .ok (.goto 4, 3) := e_167 (x := 0) (y := 4) drcX7_find_0 18 rfl rfl
theorem dX7_find_21 : decode cX7_find 21 = .ok (.iconst 0, 1) := dec_3 (gB drcX7_find_0 21 rfl rfl)
theorem dX7_find_22 : decode cX7_find 22 = .ok (.iconst 1, 1) := dec_4 (gB drcX7_find_0 22 rfl rfl)
theorem dX7_find_23 : decode cX7_find 23 = .ok (.invokevirtual 51, 3) := e_182 (x := 0) (y := 51) drcX7_find_0 23 rfl rfl
theorem dX7_find_26 : decode cX7_find 26 = .ok (.ifCond .eq 5, 3) := e_153 (x := 0) (y := 5) drcX7_find_0 26 rfl rfl
theorem dX7_find_29 : decode cX7_find 29 = .ok (.iconst 0, 1) := dec_3 (gB drcX7_find_0 29 rfl rfl)
theorem dX7_find_30 : decode cX7_find 30 = .ok (.ireturn, 1) := dec_172 (gB drcX7_find_0 30 rfl rfl)
theorem dX7_find_31 : decode cX7_find 31 = .ok (.iload_n 3, 1) := dec_29 (gB drcX7_find_0 31 rfl rfl)
theorem dX7_find_32 : decode cX7_find 32 = .ok (.istore 4, 2) := e_54 (x := 4) drcX7_find_0 32 rfl rfl
theorem dX7_find_34 : decode cX7_find 34 = .ok (.iload 4, 2) := e_21 (x := 4) drcX7_find_0 34 rfl rfl
theorem dX7_find_36 : decode cX7_find 36 = .ok (.aload_n 0, 1) := dec_42 (gB drcX7_find_0 36 rfl rfl)
theorem dX7_find_37 : decode cX7_find 37 = .ok (.getfield 9, 3) := e_180 (x := 0) (y := 9) drcX7_find_0 37 rfl rfl
theorem dX7_find_40 : decode cX7_find 40 = .ok (.iload_n 1, 1) := dec_27 (gB drcX7_find_0 40 rfl rfl)
theorem dX7_find_41 : decode cX7_find 41 = .ok (.aaload, 1) := dec_50 (gB drcX7_find_0 41 rfl rfl)
theorem dX7_find_42 : decode cX7_find 42 = .ok (.arraylength, 1) := dec_190 (gB drcX7_find_0 42 rfl rfl)
theorem dX7_find_43 : decode cX7_find 43 = .ok (.if_icmp .gt 32, 3) := e_163 (x := 0) (y := 32) drcX7_find_0 43 rfl rfl
theorem dX7_find_46 : decode cX7_find 46 = .ok (.aload_n 0, 1) := dec_42 (gB drcX7_find_0 46 rfl rfl)
theorem dX7_find_47 : decode cX7_find 47 = .ok (.getfield 9, 3) := e_180 (x := 0) (y := 9) drcX7_find_0 47 rfl rfl
theorem dX7_find_50 : decode cX7_find 50 = .ok (.iload_n 1, 1) := dec_27 (gB drcX7_find_0 50 rfl rfl)
theorem dX7_find_51 : decode cX7_find 51 = .ok (.aaload, 1) := dec_50 (gB drcX7_find_0 51 rfl rfl)
theorem dX7_find_52 : decode cX7_find 52 = .ok (.aload_n 0, 1) := dec_42 (gB drcX7_find_0 52 rfl rfl)
theorem dX7_find_53 : decode cX7_find 53 = .ok (.getfield 9, 3) := e_180 (x := 0) (y := 9) drcX7_find_0 53 rfl rfl
theorem dX7_find_56 : decode cX7_find 56 = .ok (.iload_n 2, 1) := dec_28 (gB drcX7_find_0 56 rfl rfl)
theorem dX7_find_57 : decode cX7_find 57 = .ok (.aaload, 1) := dec_50 (gB drcX7_find_0 57 rfl rfl)
theorem dX7_find_58 : decode cX7_find 58 = .ok (.iload 4, 2) := e_21 (x := 4) drcX7_find_0 58 rfl rfl
theorem dX7_find_60 : decode cX7_find 60 = .ok (.invokestatic 37, 3) := e_184 (x := 0) (y := 37) drcX7_find_0 60 rfl rfl
theorem dX7_find_63 : decode cX7_find 63 = .ok (.ifCond .eq 6, 3) := dec_153 (a := 0) (b := 6) (gB drcX7_find_0 63 rfl rfl) (gB drcX7_find_1 0 rfl rfl) (gB drcX7_find_1 1 rfl rfl)
theorem dX7_find_66 : decode cX7_find 66 = .ok (.iload 4, 2) := e_21 (x := 4) drcX7_find_1 2 rfl rfl
theorem dX7_find_68 : decode cX7_find 68 = .ok (.ireturn, 1) := dec_172 (gB drcX7_find_1 4 rfl rfl)
theorem dX7_find_69 : decode cX7_find 69 = .ok (.iinc 4 1, 3) := e_132 (x := 4) (y := 1) drcX7_find_1 5 rfl rfl
theorem dX7_find_72 : decode cX7_find 72 = .ok (.goto (-38), 3) := e_167 (x := 255) (y := 218) drcX7_find_1 8 rfl rfl
theorem dX7_find_75 : decode cX7_find 75 = .ok (.iconst (-1), 1) := dec_2 (gB drcX7_find_1 11 rfl rfl)
theorem dX7_find_76 : decode cX7_find 76 = .ok (.ireturn, 1) := dec_172 (gB drcX7_find_1 12 rfl rfl)
def lkcX7_findLast_0 : List UInt8 := [0x2a, 0x2a, 0x1b, 0x1d, 0xb6, 0x00, 0x4b, 0x9a, 0x00, 0x0a, 0x1c, 0xb8, 0x00, 0x21, 0x99, 0x00, 0x07, 0x04, 0xa7, 0x00, 0x04, 0x03, 0x04, 0xb6, 0x00, 0x33, 0x99, 0x00, 0x05, 0x03, 0xac, 0x1d, 0x36, 0x04, 0x15, 0x04, 0x9b, 0x00, 0x20, 0x2a, 0xb4, 0x00, 0x09, 0x1b, 0x32, 0x2a, 0xb4, 0x00, 0x09, 0x1c, 0x32, 0x15, 0x04, 0xb8, 0x00, 0x25, 0x99, 0x00, 0x06, 0x15, 0x04, 0xac, 0x84, 0x04]
def lkcX7_findLast_1 : List UInt8 := [0xff, 0xa7, 0xff, 0xe1, 0x02, 0xac]
def tkcX7_findLast_1 : List UInt8 := lkcX7_findLast_1 ++ []
def tkcX7_findLast_0 : List UInt8 := lkcX7_findLast_0 ++ tkcX7_findLast_1
theorem drcX7_findLast_0 : (cX7_findLast).data.toList.drop 0 = lkcX7_findLast_0 ++ tkcX7_findLast_1 := by decide +kernel
theorem drcX7_findLast_1 : (cX7_findLast).data.toList.drop 64 = lkcX7_findLast_1 ++ [] := dr_step drcX7_findLast_0 rfl
theorem dX7_findLast_0 : decode cX7_findLast 0 = .ok (.aload_n 0, 1) := dec_42 (gB drcX7_findLast_0 0 rfl rfl)
theorem dX7_findLast_1 : decode cX7_findLast 1 = .ok (.aload_n 0, 1) := dec_42 (gB drcX7_findLast_0 1 rfl rfl)
theorem dX7_findLast_2 : decode cX7_findLast 2 = .ok (.iload_n 1, 1) := dec_27 (gB drcX7_findLast_0 2 rfl rfl)
theorem dX7_findLast_3 : decode cX7_findLast 3 = .ok (.iload_n 3, 1) := dec_29 (gB drcX7_findLast_0 3 rfl rfl)
theorem dX7_findLast_4 : decode cX7_findLast 4 = .ok (.invokevirtual 75, 3) := e_182 (x := 0) (y := 75) drcX7_findLast_0 4 rfl rfl
theorem dX7_findLast_7 : decode cX7_findLast 7 = .ok (.ifCond .ne 10, 3) := e_154 (x := 0) (y := 10) drcX7_findLast_0 7 rfl rfl
theorem dX7_findLast_10 : decode cX7_findLast 10 = .ok (.iload_n 2, 1) := dec_28 (gB drcX7_findLast_0 10 rfl rfl)
theorem dX7_findLast_11 : decode cX7_findLast 11 = .ok (.invokestatic 33, 3) := e_184 (x := 0) (y := 33) drcX7_findLast_0 11 rfl rfl
theorem dX7_findLast_14 : decode cX7_findLast 14 = .ok (.ifCond .eq 7, 3) := e_153 (x := 0) (y := 7) drcX7_findLast_0 14 rfl rfl
theorem dX7_findLast_17 : decode cX7_findLast 17 = .ok (.iconst 1, 1) := dec_4 (gB drcX7_findLast_0 17 rfl rfl)
theorem dX7_findLast_18 : decode cX7_findLast 18 = .ok (.goto 4, 3) := e_167 (x := 0) (y := 4) drcX7_findLast_0 18 rfl rfl
theorem dX7_findLast_21 : decode cX7_findLast 21 = .ok (.iconst 0, 1) := dec_3 (gB drcX7_findLast_0 21 rfl rfl)
theorem dX7_findLast_22 : decode cX7_findLast 22 = .ok (.iconst 1, 1) := dec_4 (gB drcX7_findLast_0 22 rfl rfl)
theorem dX7_findLast_23 : decode cX7_findLast 23 = .ok (.invokevirtual 51, 3) := e_182 (x := 0) (y := 51) drcX7_findLast_0 23 rfl rfl
theorem dX7_findLast_26 : decode cX7_findLast 26 = .ok (.ifCond .eq 5, 3) := e_153 (x := 0) (y := 5) drcX7_findLast_0 26 rfl rfl
theorem dX7_findLast_29 : decode cX7_findLast 29 = .ok (.iconst 0, 1) := dec_3 (gB drcX7_findLast_0 29 rfl rfl)
theorem dX7_findLast_30 : decode cX7_findLast 30 = .ok (.ireturn, 1) := dec_172 (gB drcX7_findLast_0 30 rfl rfl)
theorem dX7_findLast_31 : decode cX7_findLast 31 = .ok (.iload_n 3, 1) := dec_29 (gB drcX7_findLast_0 31 rfl rfl)
theorem dX7_findLast_32 : decode cX7_findLast 32 = .ok (.istore 4, 2) := e_54 (x := 4) drcX7_findLast_0 32 rfl rfl
theorem dX7_findLast_34 : decode cX7_findLast 34 = .ok (.iload 4, 2) := e_21 (x := 4) drcX7_findLast_0 34 rfl rfl
theorem dX7_findLast_36 : decode cX7_findLast 36 = .ok (.ifCond .lt 32, 3) := e_155 (x := 0) (y := 32) drcX7_findLast_0 36 rfl rfl
theorem dX7_findLast_39 : decode cX7_findLast 39 = .ok (.aload_n 0, 1) := dec_42 (gB drcX7_findLast_0 39 rfl rfl)
theorem dX7_findLast_40 : decode cX7_findLast 40 = .ok (.getfield 9, 3) := e_180 (x := 0) (y := 9) drcX7_findLast_0 40 rfl rfl
theorem dX7_findLast_43 : decode cX7_findLast 43 = .ok (.iload_n 1, 1) := dec_27 (gB drcX7_findLast_0 43 rfl rfl)
theorem dX7_findLast_44 : decode cX7_findLast 44 = .ok (.aaload, 1) := dec_50 (gB drcX7_findLast_0 44 rfl rfl)
theorem dX7_findLast_45 : decode cX7_findLast 45 = .ok (.aload_n 0, 1) := dec_42 (gB drcX7_findLast_0 45 rfl rfl)
theorem dX7_findLast_46 : decode cX7_findLast 46 = .ok (.getfield 9, 3) := e_180 (x := 0) (y := 9) drcX7_findLast_0 46 rfl rfl
theorem dX7_findLast_49 : decode cX7_findLast 49 = .ok (.iload_n 2, 1) := dec_28 (gB drcX7_findLast_0 49 rfl rfl)
theorem dX7_findLast_50 : decode cX7_findLast 50 = .ok (.aaload, 1) := dec_50 (gB drcX7_findLast_0 50 rfl rfl)
theorem dX7_findLast_51 : decode cX7_findLast 51 = .ok (.iload 4, 2) := e_21 (x := 4) drcX7_findLast_0 51 rfl rfl
theorem dX7_findLast_53 : decode cX7_findLast 53 = .ok (.invokestatic 37, 3) := e_184 (x := 0) (y := 37) drcX7_findLast_0 53 rfl rfl
theorem dX7_findLast_56 : decode cX7_findLast 56 = .ok (.ifCond .eq 6, 3) := e_153 (x := 0) (y := 6) drcX7_findLast_0 56 rfl rfl
theorem dX7_findLast_59 : decode cX7_findLast 59 = .ok (.iload 4, 2) := e_21 (x := 4) drcX7_findLast_0 59 rfl rfl
theorem dX7_findLast_61 : decode cX7_findLast 61 = .ok (.ireturn, 1) := dec_172 (gB drcX7_findLast_0 61 rfl rfl)
theorem dX7_findLast_62 : decode cX7_findLast 62 = .ok (.iinc 4 (-1), 3) := dec_132 (a := 4) (b := 255) (gB drcX7_findLast_0 62 rfl rfl) (gB drcX7_findLast_0 63 rfl rfl) (gB drcX7_findLast_1 0 rfl rfl)
theorem dX7_findLast_65 : decode cX7_findLast 65 = .ok (.goto (-31), 3) := e_167 (x := 255) (y := 225) drcX7_findLast_1 1 rfl rfl
theorem dX7_findLast_68 : decode cX7_findLast 68 = .ok (.iconst (-1), 1) := dec_2 (gB drcX7_findLast_1 4 rfl rfl)
theorem dX7_findLast_69 : decode cX7_findLast 69 = .ok (.ireturn, 1) := dec_172 (gB drcX7_findLast_1 5 rfl rfl)
def lkcX7_order_0 : List UInt8 := [0x2a, 0x1b, 0xb8, 0x00, 0x21, 0x9a, 0x00, 0x0a, 0x1c, 0xb8, 0x00, 0x21, 0x99, 0x00, 0x07, 0x04, 0xa7, 0x00, 0x04, 0x03, 0x04, 0xb6, 0x00, 0x33, 0x99, 0x00, 0x05, 0x03, 0xac, 0x2a, 0xb4, 0x00, 0x09, 0x1b, 0x32, 0x4e, 0x2a, 0xb4, 0x00, 0x09, 0x1c, 0x32, 0x3a, 0x04, 0x03, 0x36, 0x05, 0x15, 0x05, 0x2d, 0xbe, 0xa2, 0x00, 0x2f, 0x15, 0x05, 0x19, 0x04, 0xbe, 0xa2, 0x00, 0x27, 0x2d, 0x15]
def lkcX7_order_1 : List UInt8 := [0x05, 0x2e, 0x19, 0x04, 0x15, 0x05, 0x2e, 0x9f, 0x00, 0x15, 0x2d, 0x15, 0x05, 0x2e, 0x19, 0x04, 0x15, 0x05, 0x2e, 0xa2, 0x00, 0x07, 0x02, 0xa7, 0x00, 0x04, 0x04, 0xac, 0x84, 0x05, 0x01, 0xa7, 0xff, 0xd0, 0x2d, 0xbe, 0x19, 0x04, 0xbe, 0xa2, 0x00, 0x07, 0x02, 0xa7, 0x00, 0x10, 0x2d, 0xbe, 0x19, 0x04, 0xbe, 0xa4, 0x00, 0x07, 0x04, 0xa7, 0x00, 0x04, 0x03, 0xac]
def tkcX7_order_1 : List UInt8 := lkcX7_order_1 ++ []
def tkcX7_order_0 : List UInt8 := lkcX7_order_0 ++ tkcX7_order_1
theorem drcX7_order_0 : (cX7_order).data.toList.drop 0 = lkcX7_order_0 ++ tkcX7_order_1 := by decide +kernel
theorem drcX7_order_1 : (cX7_order).data.toList.drop 64 = lkcX7_order_1 ++ [] := dr_step drcX7_order_0 rfl
theorem dX7_order_0 : decode cX7_order 0 = .ok (.aload_n 0, 1) := dec_42 (gB drcX7_order_0 0 rfl rfl)
theorem dX7_order_1 : decode cX7_order 1 = .ok (.iload_n 1, 1) := dec_27 (gB drcX7_order_0 1 rfl rfl)
theorem dX7_order_2 : decode cX7_order 2 = .ok (.invokestatic 33, 3) := e_184 (x := 0) (y := 33) drcX7_order_0 2 rfl rfl
theorem dX7_order_5 : decode cX7_order 5 = .ok (.ifCond .ne 10, 3) := e_154 (x := 0) (y := 10) drcX7_order_0 5 rfl rfl
theorem dX7_order_8 : decode cX7_order 8 = .ok (.iload_n 2, 1) := dec_28 (gB drcX7_order_0 8 rfl rfl)
theorem dX7_order_9 : decode cX7_order 9 = .ok (.invokestatic 33, 3) := e_184 (x := 0) (y := 33) drcX7_order_0 9 rfl rfl
theorem dX7_order_12 : decode cX7_order 12 = .ok (.ifCond .eq 7, 3) := e_153 (x := 0) (y := 7) drcX7_order_0 12 rfl rfl
theorem dX7_order_15 : decode cX7_order 15 = .ok (.iconst 1, 1) := dec_4 (gB drcX7_order_0 15 rfl rfl)
theorem dX7_order_16 : decode cX7_order 16 = .ok (.goto 4, 3) := e_167 (x := 0) (y := 4) drcX7_order_0 16 rfl rfl
theorem dX7_order_19 : decode cX7_order 19 = .ok (.iconst 0, 1) := dec_3 (gB drcX7_order_0 19 rfl rfl)
theorem dX7_order_20 : decode cX7_order 20 = .ok (.iconst 1, 1) := dec_4 (gB drcX7_order_0 20 rfl rfl)
theorem dX7_order_21 : decode cX7_order 21 = .ok (.invokevirtual 51, 3) := e_182 (x := 0) (y := 51) drcX7_order_0 21 rfl rfl
theorem dX7_order_24 : decode cX7_order 24 = .ok (.ifCond .eq 5, 3) := e_153 (x := 0) (y := 5) drcX7_order_0 24 rfl rfl
theorem dX7_order_27 : decode cX7_order 27 = .ok (.iconst 0, 1) := dec_3 (gB drcX7_order_0 27 rfl rfl)
theorem dX7_order_28 : decode cX7_order 28 = .ok (.ireturn, 1) := dec_172 (gB drcX7_order_0 28 rfl rfl)
theorem dX7_order_29 : decode cX7_order 29 = .ok (.aload_n 0, 1) := dec_42 (gB drcX7_order_0 29 rfl rfl)
theorem dX7_order_30 : decode cX7_order 30 = .ok (.getfield 9, 3) := e_180 (x := 0) (y := 9) drcX7_order_0 30 rfl rfl
theorem dX7_order_33 : decode cX7_order 33 = .ok (.iload_n 1, 1) := dec_27 (gB drcX7_order_0 33 rfl rfl)
theorem dX7_order_34 : decode cX7_order 34 = .ok (.aaload, 1) := dec_50 (gB drcX7_order_0 34 rfl rfl)
theorem dX7_order_35 : decode cX7_order 35 = .ok (.astore_n 3, 1) := dec_78 (gB drcX7_order_0 35 rfl rfl)
theorem dX7_order_36 : decode cX7_order 36 = .ok (.aload_n 0, 1) := dec_42 (gB drcX7_order_0 36 rfl rfl)
theorem dX7_order_37 : decode cX7_order 37 = .ok (.getfield 9, 3) := e_180 (x := 0) (y := 9) drcX7_order_0 37 rfl rfl
theorem dX7_order_40 : decode cX7_order 40 = .ok (.iload_n 2, 1) := dec_28 (gB drcX7_order_0 40 rfl rfl)
theorem dX7_order_41 : decode cX7_order 41 = .ok (.aaload, 1) := dec_50 (gB drcX7_order_0 41 rfl rfl)
theorem dX7_order_42 : decode cX7_order 42 = .ok (.astore 4, 2) := e_58 (x := 4) drcX7_order_0 42 rfl rfl
theorem dX7_order_44 : decode cX7_order 44 = .ok (.iconst 0, 1) := dec_3 (gB drcX7_order_0 44 rfl rfl)
theorem dX7_order_45 : decode cX7_order 45 = .ok (.istore 5, 2) := e_54 (x := 5) drcX7_order_0 45 rfl rfl
theorem dX7_order_47 : decode cX7_order 47 = .ok (.iload 5, 2) := e_21 (x := 5) drcX7_order_0 47 rfl rfl
theorem dX7_order_49 : decode cX7_order 49 = .ok (.aload_n 3, 1) := dec_45 (gB drcX7_order_0 49 rfl rfl)
theorem dX7_order_50 : decode cX7_order 50 = .ok (.arraylength, 1) := dec_190 (gB drcX7_order_0 50 rfl rfl)
theorem dX7_order_51 : decode cX7_order 51 = .ok (.if_icmp .ge 47, 3) := e_162 (x := 0) (y := 47) drcX7_order_0 51 rfl rfl
theorem dX7_order_54 : decode cX7_order 54 = .ok (.iload 5, 2) := e_21 (x := 5) drcX7_order_0 54 rfl rfl
theorem dX7_order_56 : decode cX7_order 56 = .ok (.aload 4, 2) := e_25 (x := 4) drcX7_order_0 56 rfl rfl
theorem dX7_order_58 : decode cX7_order 58 = .ok (.arraylength, 1) := dec_190 (gB drcX7_order_0 58 rfl rfl)
theorem dX7_order_59 : decode cX7_order 59 = .ok (.if_icmp .ge 39, 3) := e_162 (x := 0) (y := 39) drcX7_order_0 59 rfl rfl
theorem dX7_order_62 : decode cX7_order 62 = .ok (.aload_n 3, 1) := dec_45 (gB drcX7_order_0 62 rfl rfl)
theorem dX7_order_63 : decode cX7_order 63 = .ok (.iload 5, 2) := dec_21 (a := 5) (gB drcX7_order_0 63 rfl rfl) (gB drcX7_order_1 0 rfl rfl)
theorem dX7_order_65 : decode cX7_order 65 = .ok (.iaload, 1) := dec_46 (gB drcX7_order_1 1 rfl rfl)
theorem dX7_order_66 : decode cX7_order 66 = .ok (.aload 4, 2) := e_25 (x := 4) drcX7_order_1 2 rfl rfl
theorem dX7_order_68 : decode cX7_order 68 = .ok (.iload 5, 2) := e_21 (x := 5) drcX7_order_1 4 rfl rfl
theorem dX7_order_70 : decode cX7_order 70 = .ok (.iaload, 1) := dec_46 (gB drcX7_order_1 6 rfl rfl)
theorem dX7_order_71 : decode cX7_order 71 = .ok (.if_icmp .eq 21, 3) := e_159 (x := 0) (y := 21) drcX7_order_1 7 rfl rfl
theorem dX7_order_74 : decode cX7_order 74 = .ok (.aload_n 3, 1) := dec_45 (gB drcX7_order_1 10 rfl rfl)
theorem dX7_order_75 : decode cX7_order 75 = .ok (.iload 5, 2) := e_21 (x := 5) drcX7_order_1 11 rfl rfl
theorem dX7_order_77 : decode cX7_order 77 = .ok (.iaload, 1) := dec_46 (gB drcX7_order_1 13 rfl rfl)
theorem dX7_order_78 : decode cX7_order 78 = .ok (.aload 4, 2) := e_25 (x := 4) drcX7_order_1 14 rfl rfl
theorem dX7_order_80 : decode cX7_order 80 = .ok (.iload 5, 2) := e_21 (x := 5) drcX7_order_1 16 rfl rfl
theorem dX7_order_82 : decode cX7_order 82 = .ok (.iaload, 1) := dec_46 (gB drcX7_order_1 18 rfl rfl)
theorem dX7_order_83 : decode cX7_order 83 = .ok (.if_icmp .ge 7, 3) := e_162 (x := 0) (y := 7) drcX7_order_1 19 rfl rfl
theorem dX7_order_86 : decode cX7_order 86 = .ok (.iconst (-1), 1) := dec_2 (gB drcX7_order_1 22 rfl rfl)
theorem dX7_order_87 : decode cX7_order 87 = .ok (.goto 4, 3) := e_167 (x := 0) (y := 4) drcX7_order_1 23 rfl rfl
theorem dX7_order_90 : decode cX7_order 90 = .ok (.iconst 1, 1) := dec_4 (gB drcX7_order_1 26 rfl rfl)
theorem dX7_order_91 : decode cX7_order 91 = .ok (.ireturn, 1) := dec_172 (gB drcX7_order_1 27 rfl rfl)
theorem dX7_order_92 : decode cX7_order 92 = .ok (.iinc 5 1, 3) := e_132 (x := 5) (y := 1) drcX7_order_1 28 rfl rfl
theorem dX7_order_95 : decode cX7_order 95 = .ok (.goto (-48), 3) := e_167 (x := 255) (y := 208) drcX7_order_1 31 rfl rfl
theorem dX7_order_98 : decode cX7_order 98 = .ok (.aload_n 3, 1) := dec_45 (gB drcX7_order_1 34 rfl rfl)
theorem dX7_order_99 : decode cX7_order 99 = .ok (.arraylength, 1) := dec_190 (gB drcX7_order_1 35 rfl rfl)
theorem dX7_order_100 : decode cX7_order 100 = .ok (.aload 4, 2) := e_25 (x := 4) drcX7_order_1 36 rfl rfl
theorem dX7_order_102 : decode cX7_order 102 = .ok (.arraylength, 1) := dec_190 (gB drcX7_order_1 38 rfl rfl)
theorem dX7_order_103 : decode cX7_order 103 = .ok (.if_icmp .ge 7, 3) := e_162 (x := 0) (y := 7) drcX7_order_1 39 rfl rfl
theorem dX7_order_106 : decode cX7_order 106 = .ok (.iconst (-1), 1) := dec_2 (gB drcX7_order_1 42 rfl rfl)
theorem dX7_order_107 : decode cX7_order 107 = .ok (.goto 16, 3) := e_167 (x := 0) (y := 16) drcX7_order_1 43 rfl rfl
theorem dX7_order_110 : decode cX7_order 110 = .ok (.aload_n 3, 1) := dec_45 (gB drcX7_order_1 46 rfl rfl)
theorem dX7_order_111 : decode cX7_order 111 = .ok (.arraylength, 1) := dec_190 (gB drcX7_order_1 47 rfl rfl)
theorem dX7_order_112 : decode cX7_order 112 = .ok (.aload 4, 2) := e_25 (x := 4) drcX7_order_1 48 rfl rfl
theorem dX7_order_114 : decode cX7_order 114 = .ok (.arraylength, 1) := dec_190 (gB drcX7_order_1 50 rfl rfl)
theorem dX7_order_115 : decode cX7_order 115 = .ok (.if_icmp .le 7, 3) := e_164 (x := 0) (y := 7) drcX7_order_1 51 rfl rfl
theorem dX7_order_118 : decode cX7_order 118 = .ok (.iconst 1, 1) := dec_4 (gB drcX7_order_1 54 rfl rfl)
theorem dX7_order_119 : decode cX7_order 119 = .ok (.goto 4, 3) := e_167 (x := 0) (y := 4) drcX7_order_1 55 rfl rfl
theorem dX7_order_122 : decode cX7_order 122 = .ok (.iconst 0, 1) := dec_3 (gB drcX7_order_1 58 rfl rfl)
theorem dX7_order_123 : decode cX7_order 123 = .ok (.ireturn, 1) := dec_172 (gB drcX7_order_1 59 rfl rfl)
def lkcX7_isMirrored__0 : List UInt8 := [0x2a, 0x1b, 0xb8, 0x00, 0x21, 0x04, 0xb6, 0x00, 0x33, 0x9a, 0x00, 0x1b, 0x2a, 0xb4, 0x00, 0x09, 0x1b, 0x32, 0x03, 0x2a, 0xb4, 0x00, 0x09, 0x1b, 0x32, 0xbe, 0xb8, 0x00, 0x9c, 0x99, 0x00, 0x07, 0x04, 0xa7, 0x00, 0x04, 0x03, 0xac]
def tkcX7_isMirrored__0 : List UInt8 := lkcX7_isMirrored__0 ++ []
theorem drcX7_isMirrored__0 : (cX7_isMirrored_).data.toList.drop 0 = lkcX7_isMirrored__0 ++ [] := by decide +kernel
theorem dX7_isMirrored__0 : decode cX7_isMirrored_ 0 = .ok (.aload_n 0, 1) := dec_42 (gB drcX7_isMirrored__0 0 rfl rfl)
theorem dX7_isMirrored__1 : decode cX7_isMirrored_ 1 = .ok (.iload_n 1, 1) := dec_27 (gB drcX7_isMirrored__0 1 rfl rfl)
theorem dX7_isMirrored__2 : decode cX7_isMirrored_ 2 = .ok (.invokestatic 33, 3) := e_184 (x := 0) (y := 33) drcX7_isMirrored__0 2 rfl rfl
theorem dX7_isMirrored__5 : decode cX7_isMirrored_ 5 = .ok (.iconst 1, 1) := dec_4 (gB drcX7_isMirrored__0 5 rfl rfl)
theorem dX7_isMirrored__6 : decode cX7_isMirrored_ 6 = .ok (.invokevirtual 51, 3) := e_182 (x := 0) (y := 51) drcX7_isMirrored__0 6 rfl rfl
theorem dX7_isMirrored__9 : decode cX7_isMirrored_ 9 = .ok (.ifCond .ne 27, 3) := e_154 (x := 0) (y := 27) drcX7_isMirrored__0 9 rfl rfl
theorem dX7_isMirrored__12 : decode cX7_isMirrored_ 12 = .ok (.aload_n 0, 1) := dec_42 (gB drcX7_isMirrored__0 12 rfl rfl)
theorem dX7_isMirrored__13 : decode cX7_isMirrored_ 13 = .ok (.getfield 9, 3) := e_180 (x := 0) (y := 9) drcX7_isMirrored__0 13 rfl rfl
theorem dX7_isMirrored__16 : decode cX7_isMirrored_ 16 = .ok (.iload_n 1, 1) := dec_27 (gB drcX7_isMirrored__0 16 rfl rfl)
theorem dX7_isMirrored__17 : decode cX7_isMirrored_ 17 = .ok (.aaload, 1) := dec_50 (gB drcX7_isMirrored__0 17 rfl rfl)
theorem dX7_isMirrored__18 : decode cX7_isMirrored_ 18 = .ok (.iconst 0, 1) := dec_3 (gB drcX7_isMirrored__0 18 rfl rfl)
theorem dX7_isMirrored__19 : decode cX7_isMirrored_ 19 = .ok (.aload_n 0, 1) := dec_42 (gB drcX7_isMirrored__0 19 rfl rfl)
theorem dX7_isMirrored__20 : decode cX7_isMirrored_ 20 = .ok (.getfield 9, 3) := e_180 (x := 0) (y := 9) drcX7_isMirrored__0 20 rfl rfl
theorem dX7_isMirrored__23 : decode cX7_isMirrored_ 23 = .ok (.iload_n 1, 1) := dec_27 (gB drcX7_isMirrored__0 23 rfl rfl)
theorem dX7_isMirrored__24 : decode cX7_isMirrored_ 24 = .ok (.aaload, 1) := dec_50 (gB drcX7_isMirrored__0 24 rfl rfl)
theorem dX7_isMirrored__25 : decode cX7_isMirrored_ 25 = .ok (.arraylength, 1) := dec_190 (gB drcX7_isMirrored__0 25 rfl rfl)
theorem dX7_isMirrored__26 : decode cX7_isMirrored_ 26 = .ok (.invokestatic 156, 3) := e_184 (x := 0) (y := 156) drcX7_isMirrored__0 26 rfl rfl
theorem dX7_isMirrored__29 : decode cX7_isMirrored_ 29 = .ok (.ifCond .eq 7, 3) := e_153 (x := 0) (y := 7) drcX7_isMirrored__0 29 rfl rfl
theorem dX7_isMirrored__32 : decode cX7_isMirrored_ 32 = .ok (.iconst 1, 1) := dec_4 (gB drcX7_isMirrored__0 32 rfl rfl)
theorem dX7_isMirrored__33 : decode cX7_isMirrored_ 33 = .ok (.goto 4, 3) := e_167 (x := 0) (y := 4) drcX7_isMirrored__0 33 rfl rfl
theorem dX7_isMirrored__36 : decode cX7_isMirrored_ 36 = .ok (.iconst 0, 1) := dec_3 (gB drcX7_isMirrored__0 36 rfl rfl)
theorem dX7_isMirrored__37 : decode cX7_isMirrored_ 37 = .ok (.ireturn, 1) := dec_172 (gB drcX7_isMirrored__0 37 rfl rfl)
def lkcX7_parts_0 : List UInt8 := [0x1c, 0x99, 0x00, 0x0d, 0x2a, 0xbe, 0x9e, 0x00, 0x08, 0x2a, 0xbe, 0xa7, 0x00, 0x09, 0x2a, 0xbe, 0x1b, 0x64, 0x04, 0x60, 0xac]
def tkcX7_parts_0 : List UInt8 := lkcX7_parts_0 ++ []
theorem drcX7_parts_0 : (cX7_parts).data.toList.drop 0 = lkcX7_parts_0 ++ [] := by decide +kernel
theorem dX7_parts_0 : decode cX7_parts 0 = .ok (.iload_n 2, 1) := dec_28 (gB drcX7_parts_0 0 rfl rfl)
theorem dX7_parts_1 : decode cX7_parts 1 = .ok (.ifCond .eq 13, 3) := e_153 (x := 0) (y := 13) drcX7_parts_0 1 rfl rfl
theorem dX7_parts_4 : decode cX7_parts 4 = .ok (.aload_n 0, 1) := dec_42 (gB drcX7_parts_0 4 rfl rfl)
theorem dX7_parts_5 : decode cX7_parts 5 = .ok (.arraylength, 1) := dec_190 (gB drcX7_parts_0 5 rfl rfl)
theorem dX7_parts_6 : decode cX7_parts 6 = .ok (.ifCond .le 8, 3) := e_158 (x := 0) (y := 8) drcX7_parts_0 6 rfl rfl
theorem dX7_parts_9 : decode cX7_parts 9 = .ok (.aload_n 0, 1) := dec_42 (gB drcX7_parts_0 9 rfl rfl)
theorem dX7_parts_10 : decode cX7_parts 10 = .ok (.arraylength, 1) := dec_190 (gB drcX7_parts_0 10 rfl rfl)
theorem dX7_parts_11 : decode cX7_parts 11 = .ok (.goto 9, 3) := e_167 (x := 0) (y := 9) drcX7_parts_0 11 rfl rfl
theorem dX7_parts_14 : decode cX7_parts 14 = .ok (.aload_n 0, 1) := dec_42 (gB drcX7_parts_0 14 rfl rfl)
theorem dX7_parts_15 : decode cX7_parts 15 = .ok (.arraylength, 1) := dec_190 (gB drcX7_parts_0 15 rfl rfl)
theorem dX7_parts_16 : decode cX7_parts 16 = .ok (.iload_n 1, 1) := dec_27 (gB drcX7_parts_0 16 rfl rfl)
theorem dX7_parts_17 : decode cX7_parts 17 = .ok (.isub, 1) := dec_100 (gB drcX7_parts_0 17 rfl rfl)
theorem dX7_parts_18 : decode cX7_parts 18 = .ok (.iconst 1, 1) := dec_4 (gB drcX7_parts_0 18 rfl rfl)
theorem dX7_parts_19 : decode cX7_parts 19 = .ok (.iadd, 1) := dec_96 (gB drcX7_parts_0 19 rfl rfl)
theorem dX7_parts_20 : decode cX7_parts 20 = .ok (.ireturn, 1) := dec_172 (gB drcX7_parts_0 20 rfl rfl)
def lkcX7_spread_0 : List UInt8 := [0x2a, 0x1b, 0xb8, 0x00, 0x21, 0x04, 0xb6, 0x00, 0x33, 0x9a, 0x00, 0x1f, 0x2a, 0x1c, 0x03, 0x2a, 0xb4, 0x00, 0x09, 0x1b, 0x32, 0xbe, 0xb8, 0x00, 0x1d, 0x9a, 0x00, 0x07, 0x04, 0xa7, 0x00, 0x04, 0x03, 0x05, 0xb6, 0x00, 0x19, 0x99, 0x00, 0x05, 0x03, 0xac, 0x2a, 0xb4, 0x00, 0x09, 0x1b, 0x32, 0x3a, 0x04, 0x03, 0x36, 0x05, 0x1c, 0x36, 0x06, 0x03, 0x36, 0x07, 0x15, 0x07, 0x19, 0x04, 0x1c]
def lkcX7_spread_1 : List UInt8 := [0x1d, 0xb8, 0x00, 0xa0, 0xa2, 0x00, 0x3e, 0x03, 0x36, 0x08, 0x03, 0x36, 0x09, 0x15, 0x09, 0x1c, 0xa2, 0x00, 0x1a, 0x15, 0x08, 0x19, 0x04, 0x15, 0x07, 0x15, 0x09, 0x60, 0x19, 0x04, 0xbe, 0x70, 0x2e, 0x60, 0x36, 0x08, 0x84, 0x09, 0x01, 0xa7, 0xff, 0xe6, 0x15, 0x05, 0x15, 0x08, 0xb8, 0x00, 0xa4, 0x36, 0x05, 0x15, 0x06, 0x15, 0x08, 0xb8, 0x00, 0xaa, 0x36, 0x06, 0x84, 0x07, 0x01, 0xa7]
def lkcX7_spread_2 : List UInt8 := [0xff, 0xbc, 0x15, 0x05, 0x15, 0x06, 0x64, 0xac]
def tkcX7_spread_2 : List UInt8 := lkcX7_spread_2 ++ []
def tkcX7_spread_1 : List UInt8 := lkcX7_spread_1 ++ tkcX7_spread_2
def tkcX7_spread_0 : List UInt8 := lkcX7_spread_0 ++ tkcX7_spread_1
theorem drcX7_spread_0 : (cX7_spread).data.toList.drop 0 = lkcX7_spread_0 ++ tkcX7_spread_1 := by decide +kernel
theorem drcX7_spread_1 : (cX7_spread).data.toList.drop 64 = lkcX7_spread_1 ++ tkcX7_spread_2 := dr_step drcX7_spread_0 rfl
theorem drcX7_spread_2 : (cX7_spread).data.toList.drop 128 = lkcX7_spread_2 ++ [] := dr_step drcX7_spread_1 rfl
theorem dX7_spread_0 : decode cX7_spread 0 = .ok (.aload_n 0, 1) := dec_42 (gB drcX7_spread_0 0 rfl rfl)
theorem dX7_spread_1 : decode cX7_spread 1 = .ok (.iload_n 1, 1) := dec_27 (gB drcX7_spread_0 1 rfl rfl)
theorem dX7_spread_2 : decode cX7_spread 2 = .ok (.invokestatic 33, 3) := e_184 (x := 0) (y := 33) drcX7_spread_0 2 rfl rfl
theorem dX7_spread_5 : decode cX7_spread 5 = .ok (.iconst 1, 1) := dec_4 (gB drcX7_spread_0 5 rfl rfl)
theorem dX7_spread_6 : decode cX7_spread 6 = .ok (.invokevirtual 51, 3) := e_182 (x := 0) (y := 51) drcX7_spread_0 6 rfl rfl
theorem dX7_spread_9 : decode cX7_spread 9 = .ok (.ifCond .ne 31, 3) := e_154 (x := 0) (y := 31) drcX7_spread_0 9 rfl rfl
theorem dX7_spread_12 : decode cX7_spread 12 = .ok (.aload_n 0, 1) := dec_42 (gB drcX7_spread_0 12 rfl rfl)
theorem dX7_spread_13 : decode cX7_spread 13 = .ok (.iload_n 2, 1) := dec_28 (gB drcX7_spread_0 13 rfl rfl)
theorem dX7_spread_14 : decode cX7_spread 14 = .ok (.iconst 0, 1) := dec_3 (gB drcX7_spread_0 14 rfl rfl)
theorem dX7_spread_15 : decode cX7_spread 15 = .ok (.aload_n 0, 1) := dec_42 (gB drcX7_spread_0 15 rfl rfl)
theorem dX7_spread_16 : decode cX7_spread 16 = .ok (.getfield 9, 3) := e_180 (x := 0) (y := 9) drcX7_spread_0 16 rfl rfl
theorem dX7_spread_19 : decode cX7_spread 19 = .ok (.iload_n 1, 1) := dec_27 (gB drcX7_spread_0 19 rfl rfl)
theorem dX7_spread_20 : decode cX7_spread 20 = .ok (.aaload, 1) := dec_50 (gB drcX7_spread_0 20 rfl rfl)
theorem dX7_spread_21 : decode cX7_spread 21 = .ok (.arraylength, 1) := dec_190 (gB drcX7_spread_0 21 rfl rfl)
theorem dX7_spread_22 : decode cX7_spread 22 = .ok (.invokestatic 29, 3) := e_184 (x := 0) (y := 29) drcX7_spread_0 22 rfl rfl
theorem dX7_spread_25 : decode cX7_spread 25 = .ok (.ifCond .ne 7, 3) := e_154 (x := 0) (y := 7) drcX7_spread_0 25 rfl rfl
theorem dX7_spread_28 : decode cX7_spread 28 = .ok (.iconst 1, 1) := dec_4 (gB drcX7_spread_0 28 rfl rfl)
theorem dX7_spread_29 : decode cX7_spread 29 = .ok (.goto 4, 3) := e_167 (x := 0) (y := 4) drcX7_spread_0 29 rfl rfl
theorem dX7_spread_32 : decode cX7_spread 32 = .ok (.iconst 0, 1) := dec_3 (gB drcX7_spread_0 32 rfl rfl)
theorem dX7_spread_33 : decode cX7_spread 33 = .ok (.iconst 2, 1) := dec_5 (gB drcX7_spread_0 33 rfl rfl)
theorem dX7_spread_34 : decode cX7_spread 34 = .ok (.invokevirtual 25, 3) := e_182 (x := 0) (y := 25) drcX7_spread_0 34 rfl rfl
theorem dX7_spread_37 : decode cX7_spread 37 = .ok (.ifCond .eq 5, 3) := e_153 (x := 0) (y := 5) drcX7_spread_0 37 rfl rfl
theorem dX7_spread_40 : decode cX7_spread 40 = .ok (.iconst 0, 1) := dec_3 (gB drcX7_spread_0 40 rfl rfl)
theorem dX7_spread_41 : decode cX7_spread 41 = .ok (.ireturn, 1) := dec_172 (gB drcX7_spread_0 41 rfl rfl)
theorem dX7_spread_42 : decode cX7_spread 42 = .ok (.aload_n 0, 1) := dec_42 (gB drcX7_spread_0 42 rfl rfl)
theorem dX7_spread_43 : decode cX7_spread 43 = .ok (.getfield 9, 3) := e_180 (x := 0) (y := 9) drcX7_spread_0 43 rfl rfl
theorem dX7_spread_46 : decode cX7_spread 46 = .ok (.iload_n 1, 1) := dec_27 (gB drcX7_spread_0 46 rfl rfl)
theorem dX7_spread_47 : decode cX7_spread 47 = .ok (.aaload, 1) := dec_50 (gB drcX7_spread_0 47 rfl rfl)
theorem dX7_spread_48 : decode cX7_spread 48 = .ok (.astore 4, 2) := e_58 (x := 4) drcX7_spread_0 48 rfl rfl
theorem dX7_spread_50 : decode cX7_spread 50 = .ok (.iconst 0, 1) := dec_3 (gB drcX7_spread_0 50 rfl rfl)
theorem dX7_spread_51 : decode cX7_spread 51 = .ok (.istore 5, 2) := e_54 (x := 5) drcX7_spread_0 51 rfl rfl
theorem dX7_spread_53 : decode cX7_spread 53 = .ok (.iload_n 2, 1) := dec_28 (gB drcX7_spread_0 53 rfl rfl)
theorem dX7_spread_54 : decode cX7_spread 54 = .ok (.istore 6, 2) := e_54 (x := 6) drcX7_spread_0 54 rfl rfl
theorem dX7_spread_56 : decode cX7_spread 56 = .ok (.iconst 0, 1) := dec_3 (gB drcX7_spread_0 56 rfl rfl)
theorem dX7_spread_57 : decode cX7_spread 57 = .ok (.istore 7, 2) := e_54 (x := 7) drcX7_spread_0 57 rfl rfl
theorem dX7_spread_59 : decode cX7_spread 59 = .ok (.iload 7, 2) := e_21 (x := 7) drcX7_spread_0 59 rfl rfl
theorem dX7_spread_61 : decode cX7_spread 61 = .ok (.aload 4, 2) := e_25 (x := 4) drcX7_spread_0 61 rfl rfl
theorem dX7_spread_63 : decode cX7_spread 63 = .ok (.iload_n 2, 1) := dec_28 (gB drcX7_spread_0 63 rfl rfl)
theorem dX7_spread_64 : decode cX7_spread 64 = .ok (.iload_n 3, 1) := dec_29 (gB drcX7_spread_1 0 rfl rfl)
theorem dX7_spread_65 : decode cX7_spread 65 = .ok (.invokestatic 160, 3) := e_184 (x := 0) (y := 160) drcX7_spread_1 1 rfl rfl
theorem dX7_spread_68 : decode cX7_spread 68 = .ok (.if_icmp .ge 62, 3) := e_162 (x := 0) (y := 62) drcX7_spread_1 4 rfl rfl
theorem dX7_spread_71 : decode cX7_spread 71 = .ok (.iconst 0, 1) := dec_3 (gB drcX7_spread_1 7 rfl rfl)
theorem dX7_spread_72 : decode cX7_spread 72 = .ok (.istore 8, 2) := e_54 (x := 8) drcX7_spread_1 8 rfl rfl
theorem dX7_spread_74 : decode cX7_spread 74 = .ok (.iconst 0, 1) := dec_3 (gB drcX7_spread_1 10 rfl rfl)
theorem dX7_spread_75 : decode cX7_spread 75 = .ok (.istore 9, 2) := e_54 (x := 9) drcX7_spread_1 11 rfl rfl
theorem dX7_spread_77 : decode cX7_spread 77 = .ok (.iload 9, 2) := e_21 (x := 9) drcX7_spread_1 13 rfl rfl
theorem dX7_spread_79 : decode cX7_spread 79 = .ok (.iload_n 2, 1) := dec_28 (gB drcX7_spread_1 15 rfl rfl)
theorem dX7_spread_80 : decode cX7_spread 80 = .ok (.if_icmp .ge 26, 3) := e_162 (x := 0) (y := 26) drcX7_spread_1 16 rfl rfl
theorem dX7_spread_83 : decode cX7_spread 83 = .ok (.iload 8, 2) := e_21 (x := 8) drcX7_spread_1 19 rfl rfl
theorem dX7_spread_85 : decode cX7_spread 85 = .ok (.aload 4, 2) := e_25 (x := 4) drcX7_spread_1 21 rfl rfl
theorem dX7_spread_87 : decode cX7_spread 87 = .ok (.iload 7, 2) := e_21 (x := 7) drcX7_spread_1 23 rfl rfl
theorem dX7_spread_89 : decode cX7_spread 89 = .ok (.iload 9, 2) := e_21 (x := 9) drcX7_spread_1 25 rfl rfl
theorem dX7_spread_91 : decode cX7_spread 91 = .ok (.iadd, 1) := dec_96 (gB drcX7_spread_1 27 rfl rfl)
theorem dX7_spread_92 : decode cX7_spread 92 = .ok (.aload 4, 2) := e_25 (x := 4) drcX7_spread_1 28 rfl rfl
theorem dX7_spread_94 : decode cX7_spread 94 = .ok (.arraylength, 1) := dec_190 (gB drcX7_spread_1 30 rfl rfl)
theorem dX7_spread_95 : decode cX7_spread 95 = .ok (.irem, 1) := dec_112 (gB drcX7_spread_1 31 rfl rfl)
theorem dX7_spread_96 : decode cX7_spread 96 = .ok (.iaload, 1) := dec_46 (gB drcX7_spread_1 32 rfl rfl)
theorem dX7_spread_97 : decode cX7_spread 97 = .ok (.iadd, 1) := dec_96 (gB drcX7_spread_1 33 rfl rfl)
theorem dX7_spread_98 : decode cX7_spread 98 = .ok (.istore 8, 2) := e_54 (x := 8) drcX7_spread_1 34 rfl rfl
theorem dX7_spread_100 : decode cX7_spread 100 = .ok (.iinc 9 1, 3) := e_132 (x := 9) (y := 1) drcX7_spread_1 36 rfl rfl
theorem dX7_spread_103 : decode cX7_spread 103 = .ok (.goto (-26), 3) := e_167 (x := 255) (y := 230) drcX7_spread_1 39 rfl rfl
theorem dX7_spread_106 : decode cX7_spread 106 = .ok (.iload 5, 2) := e_21 (x := 5) drcX7_spread_1 42 rfl rfl
theorem dX7_spread_108 : decode cX7_spread 108 = .ok (.iload 8, 2) := e_21 (x := 8) drcX7_spread_1 44 rfl rfl
theorem dX7_spread_110 : decode cX7_spread 110 = .ok (.invokestatic 164, 3) := e_184 (x := 0) (y := 164) drcX7_spread_1 46 rfl rfl
theorem dX7_spread_113 : decode cX7_spread 113 = .ok (.istore 5, 2) := e_54 (x := 5) drcX7_spread_1 49 rfl rfl
theorem dX7_spread_115 : decode cX7_spread 115 = .ok (.iload 6, 2) := e_21 (x := 6) drcX7_spread_1 51 rfl rfl
theorem dX7_spread_117 : decode cX7_spread 117 = .ok (.iload 8, 2) := e_21 (x := 8) drcX7_spread_1 53 rfl rfl
theorem dX7_spread_119 : decode cX7_spread 119 = .ok (.invokestatic 170, 3) := e_184 (x := 0) (y := 170) drcX7_spread_1 55 rfl rfl
theorem dX7_spread_122 : decode cX7_spread 122 = .ok (.istore 6, 2) := e_54 (x := 6) drcX7_spread_1 58 rfl rfl
theorem dX7_spread_124 : decode cX7_spread 124 = .ok (.iinc 7 1, 3) := e_132 (x := 7) (y := 1) drcX7_spread_1 60 rfl rfl
theorem dX7_spread_127 : decode cX7_spread 127 = .ok (.goto (-68), 3) := dec_167 (a := 255) (b := 188) (gB drcX7_spread_1 63 rfl rfl) (gB drcX7_spread_2 0 rfl rfl) (gB drcX7_spread_2 1 rfl rfl)
theorem dX7_spread_130 : decode cX7_spread 130 = .ok (.iload 5, 2) := e_21 (x := 5) drcX7_spread_2 2 rfl rfl
theorem dX7_spread_132 : decode cX7_spread 132 = .ok (.iload 6, 2) := e_21 (x := 6) drcX7_spread_2 4 rfl rfl
theorem dX7_spread_134 : decode cX7_spread 134 = .ok (.isub, 1) := dec_100 (gB drcX7_spread_2 6 rfl rfl)
theorem dX7_spread_135 : decode cX7_spread 135 = .ok (.ireturn, 1) := dec_172 (gB drcX7_spread_2 7 rfl rfl)
def lkcX7_areLike_0 : List UInt8 := [0x03, 0x36, 0x04, 0x15, 0x04, 0x1d, 0xa2, 0x00, 0x20, 0x2a, 0x1b, 0x15, 0x04, 0x60, 0x2a, 0xbe, 0x70, 0x2e, 0x2a, 0x1c, 0x15, 0x04, 0x60, 0x2a, 0xbe, 0x70, 0x2e, 0x9f, 0x00, 0x05, 0x03, 0xac, 0x84, 0x04, 0x01, 0xa7, 0xff, 0xe0, 0x04, 0xac]
def tkcX7_areLike_0 : List UInt8 := lkcX7_areLike_0 ++ []
theorem drcX7_areLike_0 : (cX7_areLike).data.toList.drop 0 = lkcX7_areLike_0 ++ [] := by decide +kernel
theorem dX7_areLike_0 : decode cX7_areLike 0 = .ok (.iconst 0, 1) := dec_3 (gB drcX7_areLike_0 0 rfl rfl)
theorem dX7_areLike_1 : decode cX7_areLike 1 = .ok (.istore 4, 2) := e_54 (x := 4) drcX7_areLike_0 1 rfl rfl
theorem dX7_areLike_3 : decode cX7_areLike 3 = .ok (.iload 4, 2) := e_21 (x := 4) drcX7_areLike_0 3 rfl rfl
theorem dX7_areLike_5 : decode cX7_areLike 5 = .ok (.iload_n 3, 1) := dec_29 (gB drcX7_areLike_0 5 rfl rfl)
theorem dX7_areLike_6 : decode cX7_areLike 6 = .ok (.if_icmp .ge 32, 3) := e_162 (x := 0) (y := 32) drcX7_areLike_0 6 rfl rfl
theorem dX7_areLike_9 : decode cX7_areLike 9 = .ok (.aload_n 0, 1) := dec_42 (gB drcX7_areLike_0 9 rfl rfl)
theorem dX7_areLike_10 : decode cX7_areLike 10 = .ok (.iload_n 1, 1) := dec_27 (gB drcX7_areLike_0 10 rfl rfl)
theorem dX7_areLike_11 : decode cX7_areLike 11 = .ok (.iload 4, 2) := e_21 (x := 4) drcX7_areLike_0 11 rfl rfl
theorem dX7_areLike_13 : decode cX7_areLike 13 = .ok (.iadd, 1) := dec_96 (gB drcX7_areLike_0 13 rfl rfl)
theorem dX7_areLike_14 : decode cX7_areLike 14 = .ok (.aload_n 0, 1) := dec_42 (gB drcX7_areLike_0 14 rfl rfl)
theorem dX7_areLike_15 : decode cX7_areLike 15 = .ok (.arraylength, 1) := dec_190 (gB drcX7_areLike_0 15 rfl rfl)
theorem dX7_areLike_16 : decode cX7_areLike 16 = .ok (.irem, 1) := dec_112 (gB drcX7_areLike_0 16 rfl rfl)
theorem dX7_areLike_17 : decode cX7_areLike 17 = .ok (.iaload, 1) := dec_46 (gB drcX7_areLike_0 17 rfl rfl)
theorem dX7_areLike_18 : decode cX7_areLike 18 = .ok (.aload_n 0, 1) := dec_42 (gB drcX7_areLike_0 18 rfl rfl)
theorem dX7_areLike_19 : decode cX7_areLike 19 = .ok (.iload_n 2, 1) := dec_28 (gB drcX7_areLike_0 19 rfl rfl)
theorem dX7_areLike_20 : decode cX7_areLike 20 = .ok (.iload 4, 2) := e_21 (x := 4) drcX7_areLike_0 20 rfl rfl
theorem dX7_areLike_22 : decode cX7_areLike 22 = .ok (.iadd, 1) := dec_96 (gB drcX7_areLike_0 22 rfl rfl)
theorem dX7_areLike_23 : decode cX7_areLike 23 = .ok (.aload_n 0, 1) := dec_42 (gB drcX7_areLike_0 23 rfl rfl)
theorem dX7_areLike_24 : decode cX7_areLike 24 = .ok (.arraylength, 1) := dec_190 (gB drcX7_areLike_0 24 rfl rfl)
theorem dX7_areLike_25 : decode cX7_areLike 25 = .ok (.irem, 1) := dec_112 (gB drcX7_areLike_0 25 rfl rfl)
theorem dX7_areLike_26 : decode cX7_areLike 26 = .ok (.iaload, 1) := dec_46 (gB drcX7_areLike_0 26 rfl rfl)
theorem dX7_areLike_27 : decode cX7_areLike 27 = .ok (.if_icmp .eq 5, 3) := e_159 (x := 0) (y := 5) drcX7_areLike_0 27 rfl rfl
theorem dX7_areLike_30 : decode cX7_areLike 30 = .ok (.iconst 0, 1) := dec_3 (gB drcX7_areLike_0 30 rfl rfl)
theorem dX7_areLike_31 : decode cX7_areLike 31 = .ok (.ireturn, 1) := dec_172 (gB drcX7_areLike_0 31 rfl rfl)
theorem dX7_areLike_32 : decode cX7_areLike 32 = .ok (.iinc 4 1, 3) := e_132 (x := 4) (y := 1) drcX7_areLike_0 32 rfl rfl
theorem dX7_areLike_35 : decode cX7_areLike 35 = .ok (.goto (-32), 3) := e_167 (x := 255) (y := 224) drcX7_areLike_0 35 rfl rfl
theorem dX7_areLike_38 : decode cX7_areLike 38 = .ok (.iconst 1, 1) := dec_4 (gB drcX7_areLike_0 38 rfl rfl)
theorem dX7_areLike_39 : decode cX7_areLike 39 = .ok (.ireturn, 1) := dec_172 (gB drcX7_areLike_0 39 rfl rfl)
def lkcX7_kinds_0 : List UInt8 := [0x2a, 0x1b, 0xb8, 0x00, 0x21, 0x04, 0xb6, 0x00, 0x33, 0x9a, 0x00, 0x1f, 0x2a, 0x1c, 0x03, 0x2a, 0xb4, 0x00, 0x09, 0x1b, 0x32, 0xbe, 0xb8, 0x00, 0x1d, 0x9a, 0x00, 0x07, 0x04, 0xa7, 0x00, 0x04, 0x03, 0x05, 0xb6, 0x00, 0x19, 0x99, 0x00, 0x05, 0x03, 0xac, 0x2a, 0xb4, 0x00, 0x09, 0x1b, 0x32, 0x3a, 0x04, 0x03, 0x36, 0x05, 0x03, 0x36, 0x06, 0x15, 0x06, 0x19, 0x04, 0x1c, 0x1d, 0xb8, 0x00]
def lkcX7_kinds_1 : List UInt8 := [0xa0, 0xa2, 0x00, 0x3d, 0x04, 0x36, 0x07, 0x03, 0x36, 0x08, 0x15, 0x08, 0x15, 0x06, 0xa2, 0x00, 0x20, 0x15, 0x07, 0x19, 0x04, 0x15, 0x08, 0x15, 0x06, 0x1c, 0xb8, 0x00, 0xad, 0x9a, 0x00, 0x07, 0x04, 0xa7, 0x00, 0x04, 0x03, 0x7e, 0x36, 0x07, 0x84, 0x08, 0x01, 0xa7, 0xff, 0xdf, 0x15, 0x05, 0x15, 0x07, 0xb8, 0x00, 0x4f, 0x60, 0x36, 0x05, 0x84, 0x06, 0x01, 0xa7, 0xff, 0xbd, 0x15, 0x05]
def lkcX7_kinds_2 : List UInt8 := [0xac]
def tkcX7_kinds_2 : List UInt8 := lkcX7_kinds_2 ++ []
def tkcX7_kinds_1 : List UInt8 := lkcX7_kinds_1 ++ tkcX7_kinds_2
def tkcX7_kinds_0 : List UInt8 := lkcX7_kinds_0 ++ tkcX7_kinds_1
theorem drcX7_kinds_0 : (cX7_kinds).data.toList.drop 0 = lkcX7_kinds_0 ++ tkcX7_kinds_1 := by decide +kernel
theorem drcX7_kinds_1 : (cX7_kinds).data.toList.drop 64 = lkcX7_kinds_1 ++ tkcX7_kinds_2 := dr_step drcX7_kinds_0 rfl
theorem drcX7_kinds_2 : (cX7_kinds).data.toList.drop 128 = lkcX7_kinds_2 ++ [] := dr_step drcX7_kinds_1 rfl
theorem dX7_kinds_0 : decode cX7_kinds 0 = .ok (.aload_n 0, 1) := dec_42 (gB drcX7_kinds_0 0 rfl rfl)
theorem dX7_kinds_1 : decode cX7_kinds 1 = .ok (.iload_n 1, 1) := dec_27 (gB drcX7_kinds_0 1 rfl rfl)
theorem dX7_kinds_2 : decode cX7_kinds 2 = .ok (.invokestatic 33, 3) := e_184 (x := 0) (y := 33) drcX7_kinds_0 2 rfl rfl
theorem dX7_kinds_5 : decode cX7_kinds 5 = .ok (.iconst 1, 1) := dec_4 (gB drcX7_kinds_0 5 rfl rfl)
theorem dX7_kinds_6 : decode cX7_kinds 6 = .ok (.invokevirtual 51, 3) := e_182 (x := 0) (y := 51) drcX7_kinds_0 6 rfl rfl
theorem dX7_kinds_9 : decode cX7_kinds 9 = .ok (.ifCond .ne 31, 3) := e_154 (x := 0) (y := 31) drcX7_kinds_0 9 rfl rfl
theorem dX7_kinds_12 : decode cX7_kinds 12 = .ok (.aload_n 0, 1) := dec_42 (gB drcX7_kinds_0 12 rfl rfl)
theorem dX7_kinds_13 : decode cX7_kinds 13 = .ok (.iload_n 2, 1) := dec_28 (gB drcX7_kinds_0 13 rfl rfl)
theorem dX7_kinds_14 : decode cX7_kinds 14 = .ok (.iconst 0, 1) := dec_3 (gB drcX7_kinds_0 14 rfl rfl)
theorem dX7_kinds_15 : decode cX7_kinds 15 = .ok (.aload_n 0, 1) := dec_42 (gB drcX7_kinds_0 15 rfl rfl)
theorem dX7_kinds_16 : decode cX7_kinds 16 = .ok (.getfield 9, 3) := e_180 (x := 0) (y := 9) drcX7_kinds_0 16 rfl rfl
theorem dX7_kinds_19 : decode cX7_kinds 19 = .ok (.iload_n 1, 1) := dec_27 (gB drcX7_kinds_0 19 rfl rfl)
theorem dX7_kinds_20 : decode cX7_kinds 20 = .ok (.aaload, 1) := dec_50 (gB drcX7_kinds_0 20 rfl rfl)
theorem dX7_kinds_21 : decode cX7_kinds 21 = .ok (.arraylength, 1) := dec_190 (gB drcX7_kinds_0 21 rfl rfl)
theorem dX7_kinds_22 : decode cX7_kinds 22 = .ok (.invokestatic 29, 3) := e_184 (x := 0) (y := 29) drcX7_kinds_0 22 rfl rfl
theorem dX7_kinds_25 : decode cX7_kinds 25 = .ok (.ifCond .ne 7, 3) := e_154 (x := 0) (y := 7) drcX7_kinds_0 25 rfl rfl
theorem dX7_kinds_28 : decode cX7_kinds 28 = .ok (.iconst 1, 1) := dec_4 (gB drcX7_kinds_0 28 rfl rfl)
theorem dX7_kinds_29 : decode cX7_kinds 29 = .ok (.goto 4, 3) := e_167 (x := 0) (y := 4) drcX7_kinds_0 29 rfl rfl
theorem dX7_kinds_32 : decode cX7_kinds 32 = .ok (.iconst 0, 1) := dec_3 (gB drcX7_kinds_0 32 rfl rfl)
theorem dX7_kinds_33 : decode cX7_kinds 33 = .ok (.iconst 2, 1) := dec_5 (gB drcX7_kinds_0 33 rfl rfl)
theorem dX7_kinds_34 : decode cX7_kinds 34 = .ok (.invokevirtual 25, 3) := e_182 (x := 0) (y := 25) drcX7_kinds_0 34 rfl rfl
theorem dX7_kinds_37 : decode cX7_kinds 37 = .ok (.ifCond .eq 5, 3) := e_153 (x := 0) (y := 5) drcX7_kinds_0 37 rfl rfl
theorem dX7_kinds_40 : decode cX7_kinds 40 = .ok (.iconst 0, 1) := dec_3 (gB drcX7_kinds_0 40 rfl rfl)
theorem dX7_kinds_41 : decode cX7_kinds 41 = .ok (.ireturn, 1) := dec_172 (gB drcX7_kinds_0 41 rfl rfl)
theorem dX7_kinds_42 : decode cX7_kinds 42 = .ok (.aload_n 0, 1) := dec_42 (gB drcX7_kinds_0 42 rfl rfl)
theorem dX7_kinds_43 : decode cX7_kinds 43 = .ok (.getfield 9, 3) := e_180 (x := 0) (y := 9) drcX7_kinds_0 43 rfl rfl
theorem dX7_kinds_46 : decode cX7_kinds 46 = .ok (.iload_n 1, 1) := dec_27 (gB drcX7_kinds_0 46 rfl rfl)
theorem dX7_kinds_47 : decode cX7_kinds 47 = .ok (.aaload, 1) := dec_50 (gB drcX7_kinds_0 47 rfl rfl)
theorem dX7_kinds_48 : decode cX7_kinds 48 = .ok (.astore 4, 2) := e_58 (x := 4) drcX7_kinds_0 48 rfl rfl
theorem dX7_kinds_50 : decode cX7_kinds 50 = .ok (.iconst 0, 1) := dec_3 (gB drcX7_kinds_0 50 rfl rfl)
theorem dX7_kinds_51 : decode cX7_kinds 51 = .ok (.istore 5, 2) := e_54 (x := 5) drcX7_kinds_0 51 rfl rfl
theorem dX7_kinds_53 : decode cX7_kinds 53 = .ok (.iconst 0, 1) := dec_3 (gB drcX7_kinds_0 53 rfl rfl)
theorem dX7_kinds_54 : decode cX7_kinds 54 = .ok (.istore 6, 2) := e_54 (x := 6) drcX7_kinds_0 54 rfl rfl
theorem dX7_kinds_56 : decode cX7_kinds 56 = .ok (.iload 6, 2) := e_21 (x := 6) drcX7_kinds_0 56 rfl rfl
theorem dX7_kinds_58 : decode cX7_kinds 58 = .ok (.aload 4, 2) := e_25 (x := 4) drcX7_kinds_0 58 rfl rfl
theorem dX7_kinds_60 : decode cX7_kinds 60 = .ok (.iload_n 2, 1) := dec_28 (gB drcX7_kinds_0 60 rfl rfl)
theorem dX7_kinds_61 : decode cX7_kinds 61 = .ok (.iload_n 3, 1) := dec_29 (gB drcX7_kinds_0 61 rfl rfl)
theorem dX7_kinds_62 : decode cX7_kinds 62 = .ok (.invokestatic 160, 3) := dec_184 (a := 0) (b := 160) (gB drcX7_kinds_0 62 rfl rfl) (gB drcX7_kinds_0 63 rfl rfl) (gB drcX7_kinds_1 0 rfl rfl)
theorem dX7_kinds_65 : decode cX7_kinds 65 = .ok (.if_icmp .ge 61, 3) := e_162 (x := 0) (y := 61) drcX7_kinds_1 1 rfl rfl
theorem dX7_kinds_68 : decode cX7_kinds 68 = .ok (.iconst 1, 1) := dec_4 (gB drcX7_kinds_1 4 rfl rfl)
theorem dX7_kinds_69 : decode cX7_kinds 69 = .ok (.istore 7, 2) := e_54 (x := 7) drcX7_kinds_1 5 rfl rfl
theorem dX7_kinds_71 : decode cX7_kinds 71 = .ok (.iconst 0, 1) := dec_3 (gB drcX7_kinds_1 7 rfl rfl)
theorem dX7_kinds_72 : decode cX7_kinds 72 = .ok (.istore 8, 2) := e_54 (x := 8) drcX7_kinds_1 8 rfl rfl
theorem dX7_kinds_74 : decode cX7_kinds 74 = .ok (.iload 8, 2) := e_21 (x := 8) drcX7_kinds_1 10 rfl rfl
theorem dX7_kinds_76 : decode cX7_kinds 76 = .ok (.iload 6, 2) := e_21 (x := 6) drcX7_kinds_1 12 rfl rfl
theorem dX7_kinds_78 : decode cX7_kinds 78 = .ok (.if_icmp .ge 32, 3) := e_162 (x := 0) (y := 32) drcX7_kinds_1 14 rfl rfl
theorem dX7_kinds_81 : decode cX7_kinds 81 = .ok (.iload 7, 2) := e_21 (x := 7) drcX7_kinds_1 17 rfl rfl
theorem dX7_kinds_83 : decode cX7_kinds 83 = .ok (.aload 4, 2) := e_25 (x := 4) drcX7_kinds_1 19 rfl rfl
theorem dX7_kinds_85 : decode cX7_kinds 85 = .ok (.iload 8, 2) := e_21 (x := 8) drcX7_kinds_1 21 rfl rfl
theorem dX7_kinds_87 : decode cX7_kinds 87 = .ok (.iload 6, 2) := e_21 (x := 6) drcX7_kinds_1 23 rfl rfl
theorem dX7_kinds_89 : decode cX7_kinds 89 = .ok (.iload_n 2, 1) := dec_28 (gB drcX7_kinds_1 25 rfl rfl)
theorem dX7_kinds_90 : decode cX7_kinds 90 = .ok (.invokestatic 173, 3) := e_184 (x := 0) (y := 173) drcX7_kinds_1 26 rfl rfl
theorem dX7_kinds_93 : decode cX7_kinds 93 = .ok (.ifCond .ne 7, 3) := e_154 (x := 0) (y := 7) drcX7_kinds_1 29 rfl rfl
theorem dX7_kinds_96 : decode cX7_kinds 96 = .ok (.iconst 1, 1) := dec_4 (gB drcX7_kinds_1 32 rfl rfl)
theorem dX7_kinds_97 : decode cX7_kinds 97 = .ok (.goto 4, 3) := e_167 (x := 0) (y := 4) drcX7_kinds_1 33 rfl rfl
theorem dX7_kinds_100 : decode cX7_kinds 100 = .ok (.iconst 0, 1) := dec_3 (gB drcX7_kinds_1 36 rfl rfl)
theorem dX7_kinds_101 : decode cX7_kinds 101 = .ok (.iand, 1) := dec_126 (gB drcX7_kinds_1 37 rfl rfl)
theorem dX7_kinds_102 : decode cX7_kinds 102 = .ok (.istore 7, 2) := e_54 (x := 7) drcX7_kinds_1 38 rfl rfl
theorem dX7_kinds_104 : decode cX7_kinds 104 = .ok (.iinc 8 1, 3) := e_132 (x := 8) (y := 1) drcX7_kinds_1 40 rfl rfl
theorem dX7_kinds_107 : decode cX7_kinds 107 = .ok (.goto (-33), 3) := e_167 (x := 255) (y := 223) drcX7_kinds_1 43 rfl rfl
theorem dX7_kinds_110 : decode cX7_kinds 110 = .ok (.iload 5, 2) := e_21 (x := 5) drcX7_kinds_1 46 rfl rfl
theorem dX7_kinds_112 : decode cX7_kinds 112 = .ok (.iload 7, 2) := e_21 (x := 7) drcX7_kinds_1 48 rfl rfl
theorem dX7_kinds_114 : decode cX7_kinds 114 = .ok (.invokestatic 79, 3) := e_184 (x := 0) (y := 79) drcX7_kinds_1 50 rfl rfl
theorem dX7_kinds_117 : decode cX7_kinds 117 = .ok (.iadd, 1) := dec_96 (gB drcX7_kinds_1 53 rfl rfl)
theorem dX7_kinds_118 : decode cX7_kinds 118 = .ok (.istore 5, 2) := e_54 (x := 5) drcX7_kinds_1 54 rfl rfl
theorem dX7_kinds_120 : decode cX7_kinds 120 = .ok (.iinc 6 1, 3) := e_132 (x := 6) (y := 1) drcX7_kinds_1 56 rfl rfl
theorem dX7_kinds_123 : decode cX7_kinds 123 = .ok (.goto (-67), 3) := e_167 (x := 255) (y := 189) drcX7_kinds_1 59 rfl rfl
theorem dX7_kinds_126 : decode cX7_kinds 126 = .ok (.iload 5, 2) := e_21 (x := 5) drcX7_kinds_1 62 rfl rfl
theorem dX7_kinds_128 : decode cX7_kinds 128 = .ok (.ireturn, 1) := dec_172 (gB drcX7_kinds_2 0 rfl rfl)
def lkcX7_timesOf_0 : List UInt8 := [0x03, 0x3c, 0x03, 0x3d, 0x1c, 0x2a, 0xbe, 0xa2, 0x00, 0x45, 0x04, 0x3e, 0x1c, 0x1d, 0x60, 0x2a, 0xbe, 0xa3, 0x00, 0x35, 0x04, 0x36, 0x04, 0x1c, 0x15, 0x04, 0x04, 0x60, 0x1d, 0x68, 0x60, 0x2a, 0xbe, 0xa3, 0x00, 0x18, 0x2a, 0x1c, 0x1c, 0x15, 0x04, 0x1d, 0x68, 0x60, 0x1d, 0xb8, 0x00, 0xad, 0x99, 0x00, 0x09, 0x84, 0x04, 0x01, 0xa7, 0xff, 0xe1, 0x1b, 0x15, 0x04, 0xb8, 0x00, 0xa4, 0x3c]
def lkcX7_timesOf_1 : List UInt8 := [0x84, 0x03, 0x01, 0xa7, 0xff, 0xc9, 0x84, 0x02, 0x01, 0xa7, 0xff, 0xbb, 0x1b, 0xac]
def tkcX7_timesOf_1 : List UInt8 := lkcX7_timesOf_1 ++ []
def tkcX7_timesOf_0 : List UInt8 := lkcX7_timesOf_0 ++ tkcX7_timesOf_1
theorem drcX7_timesOf_0 : (cX7_timesOf).data.toList.drop 0 = lkcX7_timesOf_0 ++ tkcX7_timesOf_1 := by decide +kernel
theorem drcX7_timesOf_1 : (cX7_timesOf).data.toList.drop 64 = lkcX7_timesOf_1 ++ [] := dr_step drcX7_timesOf_0 rfl
theorem dX7_timesOf_0 : decode cX7_timesOf 0 = .ok (.iconst 0, 1) := dec_3 (gB drcX7_timesOf_0 0 rfl rfl)
theorem dX7_timesOf_1 : decode cX7_timesOf 1 = .ok (.istore_n 1, 1) := dec_60 (gB drcX7_timesOf_0 1 rfl rfl)
theorem dX7_timesOf_2 : decode cX7_timesOf 2 = .ok (.iconst 0, 1) := dec_3 (gB drcX7_timesOf_0 2 rfl rfl)
theorem dX7_timesOf_3 : decode cX7_timesOf 3 = .ok (.istore_n 2, 1) := dec_61 (gB drcX7_timesOf_0 3 rfl rfl)
theorem dX7_timesOf_4 : decode cX7_timesOf 4 = .ok (.iload_n 2, 1) := dec_28 (gB drcX7_timesOf_0 4 rfl rfl)
theorem dX7_timesOf_5 : decode cX7_timesOf 5 = .ok (.aload_n 0, 1) := dec_42 (gB drcX7_timesOf_0 5 rfl rfl)
theorem dX7_timesOf_6 : decode cX7_timesOf 6 = .ok (.arraylength, 1) := dec_190 (gB drcX7_timesOf_0 6 rfl rfl)
theorem dX7_timesOf_7 : decode cX7_timesOf 7 = .ok (.if_icmp .ge 69, 3) := e_162 (x := 0) (y := 69) drcX7_timesOf_0 7 rfl rfl
theorem dX7_timesOf_10 : decode cX7_timesOf 10 = .ok (.iconst 1, 1) := dec_4 (gB drcX7_timesOf_0 10 rfl rfl)
theorem dX7_timesOf_11 : decode cX7_timesOf 11 = .ok (.istore_n 3, 1) := dec_62 (gB drcX7_timesOf_0 11 rfl rfl)
theorem dX7_timesOf_12 : decode cX7_timesOf 12 = .ok (.iload_n 2, 1) := dec_28 (gB drcX7_timesOf_0 12 rfl rfl)
theorem dX7_timesOf_13 : decode cX7_timesOf 13 = .ok (.iload_n 3, 1) := dec_29 (gB drcX7_timesOf_0 13 rfl rfl)
theorem dX7_timesOf_14 : decode cX7_timesOf 14 = .ok (.iadd, 1) := dec_96 (gB drcX7_timesOf_0 14 rfl rfl)
theorem dX7_timesOf_15 : decode cX7_timesOf 15 = .ok (.aload_n 0, 1) := dec_42 (gB drcX7_timesOf_0 15 rfl rfl)
theorem dX7_timesOf_16 : decode cX7_timesOf 16 = .ok (.arraylength, 1) := dec_190 (gB drcX7_timesOf_0 16 rfl rfl)
theorem dX7_timesOf_17 : decode cX7_timesOf 17 = .ok (.if_icmp .gt 53, 3) := e_163 (x := 0) (y := 53) drcX7_timesOf_0 17 rfl rfl
theorem dX7_timesOf_20 : decode cX7_timesOf 20 = .ok (.iconst 1, 1) := dec_4 (gB drcX7_timesOf_0 20 rfl rfl)
theorem dX7_timesOf_21 : decode cX7_timesOf 21 = .ok (.istore 4, 2) := e_54 (x := 4) drcX7_timesOf_0 21 rfl rfl
theorem dX7_timesOf_23 : decode cX7_timesOf 23 = .ok (.iload_n 2, 1) := dec_28 (gB drcX7_timesOf_0 23 rfl rfl)
theorem dX7_timesOf_24 : decode cX7_timesOf 24 = .ok (.iload 4, 2) := e_21 (x := 4) drcX7_timesOf_0 24 rfl rfl
theorem dX7_timesOf_26 : decode cX7_timesOf 26 = .ok (.iconst 1, 1) := dec_4 (gB drcX7_timesOf_0 26 rfl rfl)
theorem dX7_timesOf_27 : decode cX7_timesOf 27 = .ok (.iadd, 1) := dec_96 (gB drcX7_timesOf_0 27 rfl rfl)
theorem dX7_timesOf_28 : decode cX7_timesOf 28 = .ok (.iload_n 3, 1) := dec_29 (gB drcX7_timesOf_0 28 rfl rfl)
theorem dX7_timesOf_29 : decode cX7_timesOf 29 = .ok (.imul, 1) := dec_104 (gB drcX7_timesOf_0 29 rfl rfl)
theorem dX7_timesOf_30 : decode cX7_timesOf 30 = .ok (.iadd, 1) := dec_96 (gB drcX7_timesOf_0 30 rfl rfl)
theorem dX7_timesOf_31 : decode cX7_timesOf 31 = .ok (.aload_n 0, 1) := dec_42 (gB drcX7_timesOf_0 31 rfl rfl)
theorem dX7_timesOf_32 : decode cX7_timesOf 32 = .ok (.arraylength, 1) := dec_190 (gB drcX7_timesOf_0 32 rfl rfl)
theorem dX7_timesOf_33 : decode cX7_timesOf 33 = .ok (.if_icmp .gt 24, 3) := e_163 (x := 0) (y := 24) drcX7_timesOf_0 33 rfl rfl
theorem dX7_timesOf_36 : decode cX7_timesOf 36 = .ok (.aload_n 0, 1) := dec_42 (gB drcX7_timesOf_0 36 rfl rfl)
theorem dX7_timesOf_37 : decode cX7_timesOf 37 = .ok (.iload_n 2, 1) := dec_28 (gB drcX7_timesOf_0 37 rfl rfl)
theorem dX7_timesOf_38 : decode cX7_timesOf 38 = .ok (.iload_n 2, 1) := dec_28 (gB drcX7_timesOf_0 38 rfl rfl)
theorem dX7_timesOf_39 : decode cX7_timesOf 39 = .ok (.iload 4, 2) := e_21 (x := 4) drcX7_timesOf_0 39 rfl rfl
theorem dX7_timesOf_41 : decode cX7_timesOf 41 = .ok (.iload_n 3, 1) := dec_29 (gB drcX7_timesOf_0 41 rfl rfl)
theorem dX7_timesOf_42 : decode cX7_timesOf 42 = .ok (.imul, 1) := dec_104 (gB drcX7_timesOf_0 42 rfl rfl)
theorem dX7_timesOf_43 : decode cX7_timesOf 43 = .ok (.iadd, 1) := dec_96 (gB drcX7_timesOf_0 43 rfl rfl)
theorem dX7_timesOf_44 : decode cX7_timesOf 44 = .ok (.iload_n 3, 1) := dec_29 (gB drcX7_timesOf_0 44 rfl rfl)
theorem dX7_timesOf_45 : decode cX7_timesOf 45 = .ok (.invokestatic 173, 3) := e_184 (x := 0) (y := 173) drcX7_timesOf_0 45 rfl rfl
theorem dX7_timesOf_48 : decode cX7_timesOf 48 = .ok (.ifCond .eq 9, 3) := e_153 (x := 0) (y := 9) drcX7_timesOf_0 48 rfl rfl
theorem dX7_timesOf_51 : decode cX7_timesOf 51 = .ok (.iinc 4 1, 3) := e_132 (x := 4) (y := 1) drcX7_timesOf_0 51 rfl rfl
theorem dX7_timesOf_54 : decode cX7_timesOf 54 = .ok (.goto (-31), 3) := e_167 (x := 255) (y := 225) drcX7_timesOf_0 54 rfl rfl
theorem dX7_timesOf_57 : decode cX7_timesOf 57 = .ok (.iload_n 1, 1) := dec_27 (gB drcX7_timesOf_0 57 rfl rfl)
theorem dX7_timesOf_58 : decode cX7_timesOf 58 = .ok (.iload 4, 2) := e_21 (x := 4) drcX7_timesOf_0 58 rfl rfl
theorem dX7_timesOf_60 : decode cX7_timesOf 60 = .ok (.invokestatic 164, 3) := e_184 (x := 0) (y := 164) drcX7_timesOf_0 60 rfl rfl
theorem dX7_timesOf_63 : decode cX7_timesOf 63 = .ok (.istore_n 1, 1) := dec_60 (gB drcX7_timesOf_0 63 rfl rfl)
theorem dX7_timesOf_64 : decode cX7_timesOf 64 = .ok (.iinc 3 1, 3) := e_132 (x := 3) (y := 1) drcX7_timesOf_1 0 rfl rfl
theorem dX7_timesOf_67 : decode cX7_timesOf 67 = .ok (.goto (-55), 3) := e_167 (x := 255) (y := 201) drcX7_timesOf_1 3 rfl rfl
theorem dX7_timesOf_70 : decode cX7_timesOf 70 = .ok (.iinc 2 1, 3) := e_132 (x := 2) (y := 1) drcX7_timesOf_1 6 rfl rfl
theorem dX7_timesOf_73 : decode cX7_timesOf 73 = .ok (.goto (-69), 3) := e_167 (x := 255) (y := 187) drcX7_timesOf_1 9 rfl rfl
theorem dX7_timesOf_76 : decode cX7_timesOf 76 = .ok (.iload_n 1, 1) := dec_27 (gB drcX7_timesOf_1 12 rfl rfl)
theorem dX7_timesOf_77 : decode cX7_timesOf 77 = .ok (.ireturn, 1) := dec_172 (gB drcX7_timesOf_1 13 rfl rfl)
def lkcX7_times_0 : List UInt8 := [0x2a, 0x1b, 0xb8, 0x00, 0x21, 0x04, 0xb6, 0x00, 0x33, 0x99, 0x00, 0x07, 0x03, 0xa7, 0x00, 0x0c, 0x2a, 0xb4, 0x00, 0x09, 0x1b, 0x32, 0xb8, 0x00, 0xb1, 0xac]
def tkcX7_times_0 : List UInt8 := lkcX7_times_0 ++ []
theorem drcX7_times_0 : (cX7_times).data.toList.drop 0 = lkcX7_times_0 ++ [] := by decide +kernel
theorem dX7_times_0 : decode cX7_times 0 = .ok (.aload_n 0, 1) := dec_42 (gB drcX7_times_0 0 rfl rfl)
theorem dX7_times_1 : decode cX7_times 1 = .ok (.iload_n 1, 1) := dec_27 (gB drcX7_times_0 1 rfl rfl)
theorem dX7_times_2 : decode cX7_times 2 = .ok (.invokestatic 33, 3) := e_184 (x := 0) (y := 33) drcX7_times_0 2 rfl rfl
theorem dX7_times_5 : decode cX7_times 5 = .ok (.iconst 1, 1) := dec_4 (gB drcX7_times_0 5 rfl rfl)
theorem dX7_times_6 : decode cX7_times 6 = .ok (.invokevirtual 51, 3) := e_182 (x := 0) (y := 51) drcX7_times_0 6 rfl rfl
theorem dX7_times_9 : decode cX7_times 9 = .ok (.ifCond .eq 7, 3) := e_153 (x := 0) (y := 7) drcX7_times_0 9 rfl rfl
theorem dX7_times_12 : decode cX7_times 12 = .ok (.iconst 0, 1) := dec_3 (gB drcX7_times_0 12 rfl rfl)
theorem dX7_times_13 : decode cX7_times 13 = .ok (.goto 12, 3) := e_167 (x := 0) (y := 12) drcX7_times_0 13 rfl rfl
theorem dX7_times_16 : decode cX7_times 16 = .ok (.aload_n 0, 1) := dec_42 (gB drcX7_times_0 16 rfl rfl)
theorem dX7_times_17 : decode cX7_times 17 = .ok (.getfield 9, 3) := e_180 (x := 0) (y := 9) drcX7_times_0 17 rfl rfl
theorem dX7_times_20 : decode cX7_times 20 = .ok (.iload_n 1, 1) := dec_27 (gB drcX7_times_0 20 rfl rfl)
theorem dX7_times_21 : decode cX7_times 21 = .ok (.aaload, 1) := dec_50 (gB drcX7_times_0 21 rfl rfl)
theorem dX7_times_22 : decode cX7_times 22 = .ok (.invokestatic 177, 3) := e_184 (x := 0) (y := 177) drcX7_times_0 22 rfl rfl
theorem dX7_times_25 : decode cX7_times 25 = .ok (.ireturn, 1) := dec_172 (gB drcX7_times_0 25 rfl rfl)
def lkcX7_overlapsOf_0 : List UInt8 := [0x03, 0x3c, 0x03, 0x3d, 0x1c, 0x2a, 0xbe, 0xa2, 0x00, 0x2c, 0x04, 0x3e, 0x1c, 0x05, 0x1d, 0x68, 0x60, 0x2a, 0xbe, 0xa2, 0x00, 0x1a, 0x1b, 0x2a, 0x1c, 0x1c, 0x1d, 0x60, 0x1d, 0x04, 0x60, 0xb8, 0x00, 0xad, 0xb8, 0x00, 0x4f, 0x60, 0x3c, 0x84, 0x03, 0x01, 0xa7, 0xff, 0xe2, 0x84, 0x02, 0x01, 0xa7, 0xff, 0xd4, 0x1b, 0xac]
def tkcX7_overlapsOf_0 : List UInt8 := lkcX7_overlapsOf_0 ++ []
theorem drcX7_overlapsOf_0 : (cX7_overlapsOf).data.toList.drop 0 = lkcX7_overlapsOf_0 ++ [] := by decide +kernel
theorem dX7_overlapsOf_0 : decode cX7_overlapsOf 0 = .ok (.iconst 0, 1) := dec_3 (gB drcX7_overlapsOf_0 0 rfl rfl)
theorem dX7_overlapsOf_1 : decode cX7_overlapsOf 1 = .ok (.istore_n 1, 1) := dec_60 (gB drcX7_overlapsOf_0 1 rfl rfl)
theorem dX7_overlapsOf_2 : decode cX7_overlapsOf 2 = .ok (.iconst 0, 1) := dec_3 (gB drcX7_overlapsOf_0 2 rfl rfl)
theorem dX7_overlapsOf_3 : decode cX7_overlapsOf 3 = .ok (.istore_n 2, 1) := dec_61 (gB drcX7_overlapsOf_0 3 rfl rfl)
theorem dX7_overlapsOf_4 : decode cX7_overlapsOf 4 = .ok (.iload_n 2, 1) := dec_28 (gB drcX7_overlapsOf_0 4 rfl rfl)
theorem dX7_overlapsOf_5 : decode cX7_overlapsOf 5 = .ok (.aload_n 0, 1) := dec_42 (gB drcX7_overlapsOf_0 5 rfl rfl)
theorem dX7_overlapsOf_6 : decode cX7_overlapsOf 6 = .ok (.arraylength, 1) := dec_190 (gB drcX7_overlapsOf_0 6 rfl rfl)
theorem dX7_overlapsOf_7 : decode cX7_overlapsOf 7 = .ok (.if_icmp .ge 44, 3) := e_162 (x := 0) (y := 44) drcX7_overlapsOf_0 7 rfl rfl
theorem dX7_overlapsOf_10 : decode cX7_overlapsOf 10 = .ok (.iconst 1, 1) := dec_4 (gB drcX7_overlapsOf_0 10 rfl rfl)
theorem dX7_overlapsOf_11 : decode cX7_overlapsOf 11 = .ok (.istore_n 3, 1) := dec_62 (gB drcX7_overlapsOf_0 11 rfl rfl)
theorem dX7_overlapsOf_12 : decode cX7_overlapsOf 12 = .ok (.iload_n 2, 1) := dec_28 (gB drcX7_overlapsOf_0 12 rfl rfl)
theorem dX7_overlapsOf_13 : decode cX7_overlapsOf 13 = .ok (.iconst 2, 1) := dec_5 (gB drcX7_overlapsOf_0 13 rfl rfl)
theorem dX7_overlapsOf_14 : decode cX7_overlapsOf 14 = .ok (.iload_n 3, 1) := dec_29 (gB drcX7_overlapsOf_0 14 rfl rfl)
theorem dX7_overlapsOf_15 : decode cX7_overlapsOf 15 = .ok (.imul, 1) := dec_104 (gB drcX7_overlapsOf_0 15 rfl rfl)
theorem dX7_overlapsOf_16 : decode cX7_overlapsOf 16 = .ok (.iadd, 1) := dec_96 (gB drcX7_overlapsOf_0 16 rfl rfl)
theorem dX7_overlapsOf_17 : decode cX7_overlapsOf 17 = .ok (.aload_n 0, 1) := dec_42 (gB drcX7_overlapsOf_0 17 rfl rfl)
theorem dX7_overlapsOf_18 : decode cX7_overlapsOf 18 = .ok (.arraylength, 1) := dec_190 (gB drcX7_overlapsOf_0 18 rfl rfl)
theorem dX7_overlapsOf_19 : decode cX7_overlapsOf 19 = .ok (.if_icmp .ge 26, 3) := e_162 (x := 0) (y := 26) drcX7_overlapsOf_0 19 rfl rfl
theorem dX7_overlapsOf_22 : decode cX7_overlapsOf 22 = .ok (.iload_n 1, 1) := dec_27 (gB drcX7_overlapsOf_0 22 rfl rfl)
theorem dX7_overlapsOf_23 : decode cX7_overlapsOf 23 = .ok (.aload_n 0, 1) := dec_42 (gB drcX7_overlapsOf_0 23 rfl rfl)
theorem dX7_overlapsOf_24 : decode cX7_overlapsOf 24 = .ok (.iload_n 2, 1) := dec_28 (gB drcX7_overlapsOf_0 24 rfl rfl)
theorem dX7_overlapsOf_25 : decode cX7_overlapsOf 25 = .ok (.iload_n 2, 1) := dec_28 (gB drcX7_overlapsOf_0 25 rfl rfl)
theorem dX7_overlapsOf_26 : decode cX7_overlapsOf 26 = .ok (.iload_n 3, 1) := dec_29 (gB drcX7_overlapsOf_0 26 rfl rfl)
theorem dX7_overlapsOf_27 : decode cX7_overlapsOf 27 = .ok (.iadd, 1) := dec_96 (gB drcX7_overlapsOf_0 27 rfl rfl)
theorem dX7_overlapsOf_28 : decode cX7_overlapsOf 28 = .ok (.iload_n 3, 1) := dec_29 (gB drcX7_overlapsOf_0 28 rfl rfl)
theorem dX7_overlapsOf_29 : decode cX7_overlapsOf 29 = .ok (.iconst 1, 1) := dec_4 (gB drcX7_overlapsOf_0 29 rfl rfl)
theorem dX7_overlapsOf_30 : decode cX7_overlapsOf 30 = .ok (.iadd, 1) := dec_96 (gB drcX7_overlapsOf_0 30 rfl rfl)
theorem dX7_overlapsOf_31 : decode cX7_overlapsOf 31 = .ok (.invokestatic 173, 3) := e_184 (x := 0) (y := 173) drcX7_overlapsOf_0 31 rfl rfl
theorem dX7_overlapsOf_34 : decode cX7_overlapsOf 34 = .ok (.invokestatic 79, 3) := e_184 (x := 0) (y := 79) drcX7_overlapsOf_0 34 rfl rfl
theorem dX7_overlapsOf_37 : decode cX7_overlapsOf 37 = .ok (.iadd, 1) := dec_96 (gB drcX7_overlapsOf_0 37 rfl rfl)
theorem dX7_overlapsOf_38 : decode cX7_overlapsOf 38 = .ok (.istore_n 1, 1) := dec_60 (gB drcX7_overlapsOf_0 38 rfl rfl)
theorem dX7_overlapsOf_39 : decode cX7_overlapsOf 39 = .ok (.iinc 3 1, 3) := e_132 (x := 3) (y := 1) drcX7_overlapsOf_0 39 rfl rfl
theorem dX7_overlapsOf_42 : decode cX7_overlapsOf 42 = .ok (.goto (-30), 3) := e_167 (x := 255) (y := 226) drcX7_overlapsOf_0 42 rfl rfl
theorem dX7_overlapsOf_45 : decode cX7_overlapsOf 45 = .ok (.iinc 2 1, 3) := e_132 (x := 2) (y := 1) drcX7_overlapsOf_0 45 rfl rfl
theorem dX7_overlapsOf_48 : decode cX7_overlapsOf 48 = .ok (.goto (-44), 3) := e_167 (x := 255) (y := 212) drcX7_overlapsOf_0 48 rfl rfl
theorem dX7_overlapsOf_51 : decode cX7_overlapsOf 51 = .ok (.iload_n 1, 1) := dec_27 (gB drcX7_overlapsOf_0 51 rfl rfl)
theorem dX7_overlapsOf_52 : decode cX7_overlapsOf 52 = .ok (.ireturn, 1) := dec_172 (gB drcX7_overlapsOf_0 52 rfl rfl)
def lkcX7_overlaps_0 : List UInt8 := [0x2a, 0x1b, 0xb8, 0x00, 0x21, 0x04, 0xb6, 0x00, 0x33, 0x99, 0x00, 0x07, 0x03, 0xa7, 0x00, 0x0c, 0x2a, 0xb4, 0x00, 0x09, 0x1b, 0x32, 0xb8, 0x00, 0xb4, 0xac]
def tkcX7_overlaps_0 : List UInt8 := lkcX7_overlaps_0 ++ []
theorem drcX7_overlaps_0 : (cX7_overlaps).data.toList.drop 0 = lkcX7_overlaps_0 ++ [] := by decide +kernel
theorem dX7_overlaps_0 : decode cX7_overlaps 0 = .ok (.aload_n 0, 1) := dec_42 (gB drcX7_overlaps_0 0 rfl rfl)
theorem dX7_overlaps_1 : decode cX7_overlaps 1 = .ok (.iload_n 1, 1) := dec_27 (gB drcX7_overlaps_0 1 rfl rfl)
theorem dX7_overlaps_2 : decode cX7_overlaps 2 = .ok (.invokestatic 33, 3) := e_184 (x := 0) (y := 33) drcX7_overlaps_0 2 rfl rfl
theorem dX7_overlaps_5 : decode cX7_overlaps 5 = .ok (.iconst 1, 1) := dec_4 (gB drcX7_overlaps_0 5 rfl rfl)
theorem dX7_overlaps_6 : decode cX7_overlaps 6 = .ok (.invokevirtual 51, 3) := e_182 (x := 0) (y := 51) drcX7_overlaps_0 6 rfl rfl
theorem dX7_overlaps_9 : decode cX7_overlaps 9 = .ok (.ifCond .eq 7, 3) := e_153 (x := 0) (y := 7) drcX7_overlaps_0 9 rfl rfl
theorem dX7_overlaps_12 : decode cX7_overlaps 12 = .ok (.iconst 0, 1) := dec_3 (gB drcX7_overlaps_0 12 rfl rfl)
theorem dX7_overlaps_13 : decode cX7_overlaps 13 = .ok (.goto 12, 3) := e_167 (x := 0) (y := 12) drcX7_overlaps_0 13 rfl rfl
theorem dX7_overlaps_16 : decode cX7_overlaps 16 = .ok (.aload_n 0, 1) := dec_42 (gB drcX7_overlaps_0 16 rfl rfl)
theorem dX7_overlaps_17 : decode cX7_overlaps 17 = .ok (.getfield 9, 3) := e_180 (x := 0) (y := 9) drcX7_overlaps_0 17 rfl rfl
theorem dX7_overlaps_20 : decode cX7_overlaps 20 = .ok (.iload_n 1, 1) := dec_27 (gB drcX7_overlaps_0 20 rfl rfl)
theorem dX7_overlaps_21 : decode cX7_overlaps 21 = .ok (.aaload, 1) := dec_50 (gB drcX7_overlaps_0 21 rfl rfl)
theorem dX7_overlaps_22 : decode cX7_overlaps 22 = .ok (.invokestatic 180, 3) := e_184 (x := 0) (y := 180) drcX7_overlaps_0 22 rfl rfl
theorem dX7_overlaps_25 : decode cX7_overlaps 25 = .ok (.ireturn, 1) := dec_172 (gB drcX7_overlaps_0 25 rfl rfl)
def lkcX7_mirrors_0 : List UInt8 := [0x2a, 0x1b, 0xb8, 0x00, 0x21, 0x04, 0xb6, 0x00, 0x33, 0x99, 0x00, 0x05, 0x03, 0xac, 0x2a, 0xb4, 0x00, 0x09, 0x1b, 0x32, 0x4d, 0x03, 0x3e, 0x04, 0x36, 0x04, 0x15, 0x04, 0x2c, 0xbe, 0xa3, 0x00, 0x61, 0x03, 0x36, 0x05, 0x15, 0x05, 0x15, 0x04, 0x60, 0x2c, 0xbe, 0xa3, 0x00, 0x4e, 0x2c, 0x15, 0x05, 0x15, 0x05, 0x15, 0x04, 0x60, 0xb8, 0x00, 0x9c, 0x9a, 0x00, 0x06, 0xa7, 0x00, 0x37, 0x04]
def lkcX7_mirrors_1 : List UInt8 := [0x36, 0x06, 0x03, 0x36, 0x07, 0x15, 0x07, 0x15, 0x05, 0xa2, 0x00, 0x22, 0x15, 0x06, 0x99, 0x00, 0x1d, 0x2c, 0x15, 0x07, 0x15, 0x05, 0x15, 0x04, 0xb8, 0x00, 0xad, 0x9a, 0x00, 0x07, 0x04, 0xa7, 0x00, 0x04, 0x03, 0x36, 0x06, 0x84, 0x07, 0x01, 0xa7, 0xff, 0xdd, 0x1d, 0x15, 0x06, 0xb8, 0x00, 0x4f, 0x60, 0x3e, 0x84, 0x05, 0x01, 0xa7, 0xff, 0xae, 0x84, 0x04, 0x01, 0xa7, 0xff, 0x9e, 0x1d]
def lkcX7_mirrors_2 : List UInt8 := [0xac]
def tkcX7_mirrors_2 : List UInt8 := lkcX7_mirrors_2 ++ []
def tkcX7_mirrors_1 : List UInt8 := lkcX7_mirrors_1 ++ tkcX7_mirrors_2
def tkcX7_mirrors_0 : List UInt8 := lkcX7_mirrors_0 ++ tkcX7_mirrors_1
theorem drcX7_mirrors_0 : (cX7_mirrors).data.toList.drop 0 = lkcX7_mirrors_0 ++ tkcX7_mirrors_1 := by decide +kernel
theorem drcX7_mirrors_1 : (cX7_mirrors).data.toList.drop 64 = lkcX7_mirrors_1 ++ tkcX7_mirrors_2 := dr_step drcX7_mirrors_0 rfl
theorem drcX7_mirrors_2 : (cX7_mirrors).data.toList.drop 128 = lkcX7_mirrors_2 ++ [] := dr_step drcX7_mirrors_1 rfl
theorem dX7_mirrors_0 : decode cX7_mirrors 0 = .ok (.aload_n 0, 1) := dec_42 (gB drcX7_mirrors_0 0 rfl rfl)
theorem dX7_mirrors_1 : decode cX7_mirrors 1 = .ok (.iload_n 1, 1) := dec_27 (gB drcX7_mirrors_0 1 rfl rfl)
theorem dX7_mirrors_2 : decode cX7_mirrors 2 = .ok (.invokestatic 33, 3) := e_184 (x := 0) (y := 33) drcX7_mirrors_0 2 rfl rfl
theorem dX7_mirrors_5 : decode cX7_mirrors 5 = .ok (.iconst 1, 1) := dec_4 (gB drcX7_mirrors_0 5 rfl rfl)
theorem dX7_mirrors_6 : decode cX7_mirrors 6 = .ok (.invokevirtual 51, 3) := e_182 (x := 0) (y := 51) drcX7_mirrors_0 6 rfl rfl
theorem dX7_mirrors_9 : decode cX7_mirrors 9 = .ok (.ifCond .eq 5, 3) := e_153 (x := 0) (y := 5) drcX7_mirrors_0 9 rfl rfl
theorem dX7_mirrors_12 : decode cX7_mirrors 12 = .ok (.iconst 0, 1) := dec_3 (gB drcX7_mirrors_0 12 rfl rfl)
theorem dX7_mirrors_13 : decode cX7_mirrors 13 = .ok (.ireturn, 1) := dec_172 (gB drcX7_mirrors_0 13 rfl rfl)
theorem dX7_mirrors_14 : decode cX7_mirrors 14 = .ok (.aload_n 0, 1) := dec_42 (gB drcX7_mirrors_0 14 rfl rfl)
theorem dX7_mirrors_15 : decode cX7_mirrors 15 = .ok (.getfield 9, 3) := e_180 (x := 0) (y := 9) drcX7_mirrors_0 15 rfl rfl
theorem dX7_mirrors_18 : decode cX7_mirrors 18 = .ok (.iload_n 1, 1) := dec_27 (gB drcX7_mirrors_0 18 rfl rfl)
theorem dX7_mirrors_19 : decode cX7_mirrors 19 = .ok (.aaload, 1) := dec_50 (gB drcX7_mirrors_0 19 rfl rfl)
theorem dX7_mirrors_20 : decode cX7_mirrors 20 = .ok (.astore_n 2, 1) := dec_77 (gB drcX7_mirrors_0 20 rfl rfl)
theorem dX7_mirrors_21 : decode cX7_mirrors 21 = .ok (.iconst 0, 1) := dec_3 (gB drcX7_mirrors_0 21 rfl rfl)
theorem dX7_mirrors_22 : decode cX7_mirrors 22 = .ok (.istore_n 3, 1) := dec_62 (gB drcX7_mirrors_0 22 rfl rfl)
theorem dX7_mirrors_23 : decode cX7_mirrors 23 = .ok (.iconst 1, 1) := dec_4 (gB drcX7_mirrors_0 23 rfl rfl)
theorem dX7_mirrors_24 : decode cX7_mirrors 24 = .ok (.istore 4, 2) := e_54 (x := 4) drcX7_mirrors_0 24 rfl rfl
theorem dX7_mirrors_26 : decode cX7_mirrors 26 = .ok (.iload 4, 2) := e_21 (x := 4) drcX7_mirrors_0 26 rfl rfl
theorem dX7_mirrors_28 : decode cX7_mirrors 28 = .ok (.aload_n 2, 1) := dec_44 (gB drcX7_mirrors_0 28 rfl rfl)
theorem dX7_mirrors_29 : decode cX7_mirrors 29 = .ok (.arraylength, 1) := dec_190 (gB drcX7_mirrors_0 29 rfl rfl)
theorem dX7_mirrors_30 : decode cX7_mirrors 30 = .ok (.if_icmp .gt 97, 3) := e_163 (x := 0) (y := 97) drcX7_mirrors_0 30 rfl rfl
theorem dX7_mirrors_33 : decode cX7_mirrors 33 = .ok (.iconst 0, 1) := dec_3 (gB drcX7_mirrors_0 33 rfl rfl)
theorem dX7_mirrors_34 : decode cX7_mirrors 34 = .ok (.istore 5, 2) := e_54 (x := 5) drcX7_mirrors_0 34 rfl rfl
theorem dX7_mirrors_36 : decode cX7_mirrors 36 = .ok (.iload 5, 2) := e_21 (x := 5) drcX7_mirrors_0 36 rfl rfl
theorem dX7_mirrors_38 : decode cX7_mirrors 38 = .ok (.iload 4, 2) := e_21 (x := 4) drcX7_mirrors_0 38 rfl rfl
theorem dX7_mirrors_40 : decode cX7_mirrors 40 = .ok (.iadd, 1) := dec_96 (gB drcX7_mirrors_0 40 rfl rfl)
theorem dX7_mirrors_41 : decode cX7_mirrors 41 = .ok (.aload_n 2, 1) := dec_44 (gB drcX7_mirrors_0 41 rfl rfl)
theorem dX7_mirrors_42 : decode cX7_mirrors 42 = .ok (.arraylength, 1) := dec_190 (gB drcX7_mirrors_0 42 rfl rfl)
theorem dX7_mirrors_43 : decode cX7_mirrors 43 = .ok (.if_icmp .gt 78, 3) := e_163 (x := 0) (y := 78) drcX7_mirrors_0 43 rfl rfl
theorem dX7_mirrors_46 : decode cX7_mirrors 46 = .ok (.aload_n 2, 1) := dec_44 (gB drcX7_mirrors_0 46 rfl rfl)
theorem dX7_mirrors_47 : decode cX7_mirrors 47 = .ok (.iload 5, 2) := e_21 (x := 5) drcX7_mirrors_0 47 rfl rfl
theorem dX7_mirrors_49 : decode cX7_mirrors 49 = .ok (.iload 5, 2) := e_21 (x := 5) drcX7_mirrors_0 49 rfl rfl
theorem dX7_mirrors_51 : decode cX7_mirrors 51 = .ok (.iload 4, 2) := e_21 (x := 4) drcX7_mirrors_0 51 rfl rfl
theorem dX7_mirrors_53 : decode cX7_mirrors 53 = .ok (.iadd, 1) := dec_96 (gB drcX7_mirrors_0 53 rfl rfl)
theorem dX7_mirrors_54 : decode cX7_mirrors 54 = .ok (.invokestatic 156, 3) := e_184 (x := 0) (y := 156) drcX7_mirrors_0 54 rfl rfl
theorem dX7_mirrors_57 : decode cX7_mirrors 57 = .ok (.ifCond .ne 6, 3) := e_154 (x := 0) (y := 6) drcX7_mirrors_0 57 rfl rfl
theorem dX7_mirrors_60 : decode cX7_mirrors 60 = .ok (.goto 55, 3) := e_167 (x := 0) (y := 55) drcX7_mirrors_0 60 rfl rfl
theorem dX7_mirrors_63 : decode cX7_mirrors 63 = .ok (.iconst 1, 1) := dec_4 (gB drcX7_mirrors_0 63 rfl rfl)
theorem dX7_mirrors_64 : decode cX7_mirrors 64 = .ok (.istore 6, 2) := e_54 (x := 6) drcX7_mirrors_1 0 rfl rfl
theorem dX7_mirrors_66 : decode cX7_mirrors 66 = .ok (.iconst 0, 1) := dec_3 (gB drcX7_mirrors_1 2 rfl rfl)
theorem dX7_mirrors_67 : decode cX7_mirrors 67 = .ok (.istore 7, 2) := e_54 (x := 7) drcX7_mirrors_1 3 rfl rfl
theorem dX7_mirrors_69 : decode cX7_mirrors 69 = .ok (.iload 7, 2) := e_21 (x := 7) drcX7_mirrors_1 5 rfl rfl
theorem dX7_mirrors_71 : decode cX7_mirrors 71 = .ok (.iload 5, 2) := e_21 (x := 5) drcX7_mirrors_1 7 rfl rfl
theorem dX7_mirrors_73 : decode cX7_mirrors 73 = .ok (.if_icmp .ge 34, 3) := e_162 (x := 0) (y := 34) drcX7_mirrors_1 9 rfl rfl
theorem dX7_mirrors_76 : decode cX7_mirrors 76 = .ok (.iload 6, 2) := e_21 (x := 6) drcX7_mirrors_1 12 rfl rfl
theorem dX7_mirrors_78 : decode cX7_mirrors 78 = .ok (.ifCond .eq 29, 3) := e_153 (x := 0) (y := 29) drcX7_mirrors_1 14 rfl rfl
theorem dX7_mirrors_81 : decode cX7_mirrors 81 = .ok (.aload_n 2, 1) := dec_44 (gB drcX7_mirrors_1 17 rfl rfl)
theorem dX7_mirrors_82 : decode cX7_mirrors 82 = .ok (.iload 7, 2) := e_21 (x := 7) drcX7_mirrors_1 18 rfl rfl
theorem dX7_mirrors_84 : decode cX7_mirrors 84 = .ok (.iload 5, 2) := e_21 (x := 5) drcX7_mirrors_1 20 rfl rfl
theorem dX7_mirrors_86 : decode cX7_mirrors 86 = .ok (.iload 4, 2) := e_21 (x := 4) drcX7_mirrors_1 22 rfl rfl
theorem dX7_mirrors_88 : decode cX7_mirrors 88 = .ok (.invokestatic 173, 3) := e_184 (x := 0) (y := 173) drcX7_mirrors_1 24 rfl rfl
theorem dX7_mirrors_91 : decode cX7_mirrors 91 = .ok (.ifCond .ne 7, 3) := e_154 (x := 0) (y := 7) drcX7_mirrors_1 27 rfl rfl
theorem dX7_mirrors_94 : decode cX7_mirrors 94 = .ok (.iconst 1, 1) := dec_4 (gB drcX7_mirrors_1 30 rfl rfl)
theorem dX7_mirrors_95 : decode cX7_mirrors 95 = .ok (.goto 4, 3) := e_167 (x := 0) (y := 4) drcX7_mirrors_1 31 rfl rfl
theorem dX7_mirrors_98 : decode cX7_mirrors 98 = .ok (.iconst 0, 1) := dec_3 (gB drcX7_mirrors_1 34 rfl rfl)
theorem dX7_mirrors_99 : decode cX7_mirrors 99 = .ok (.istore 6, 2) := e_54 (x := 6) drcX7_mirrors_1 35 rfl rfl
theorem dX7_mirrors_101 : decode cX7_mirrors 101 = .ok (.iinc 7 1, 3) := e_132 (x := 7) (y := 1) drcX7_mirrors_1 37 rfl rfl
theorem dX7_mirrors_104 : decode cX7_mirrors 104 = .ok (.goto (-35), 3) := e_167 (x := 255) (y := 221) drcX7_mirrors_1 40 rfl rfl
theorem dX7_mirrors_107 : decode cX7_mirrors 107 = .ok (.iload_n 3, 1) := dec_29 (gB drcX7_mirrors_1 43 rfl rfl)
theorem dX7_mirrors_108 : decode cX7_mirrors 108 = .ok (.iload 6, 2) := e_21 (x := 6) drcX7_mirrors_1 44 rfl rfl
theorem dX7_mirrors_110 : decode cX7_mirrors 110 = .ok (.invokestatic 79, 3) := e_184 (x := 0) (y := 79) drcX7_mirrors_1 46 rfl rfl
theorem dX7_mirrors_113 : decode cX7_mirrors 113 = .ok (.iadd, 1) := dec_96 (gB drcX7_mirrors_1 49 rfl rfl)
theorem dX7_mirrors_114 : decode cX7_mirrors 114 = .ok (.istore_n 3, 1) := dec_62 (gB drcX7_mirrors_1 50 rfl rfl)
theorem dX7_mirrors_115 : decode cX7_mirrors 115 = .ok (.iinc 5 1, 3) := e_132 (x := 5) (y := 1) drcX7_mirrors_1 51 rfl rfl
theorem dX7_mirrors_118 : decode cX7_mirrors 118 = .ok (.goto (-82), 3) := e_167 (x := 255) (y := 174) drcX7_mirrors_1 54 rfl rfl
theorem dX7_mirrors_121 : decode cX7_mirrors 121 = .ok (.iinc 4 1, 3) := e_132 (x := 4) (y := 1) drcX7_mirrors_1 57 rfl rfl
theorem dX7_mirrors_124 : decode cX7_mirrors 124 = .ok (.goto (-98), 3) := e_167 (x := 255) (y := 158) drcX7_mirrors_1 60 rfl rfl
theorem dX7_mirrors_127 : decode cX7_mirrors 127 = .ok (.iload_n 3, 1) := dec_29 (gB drcX7_mirrors_1 63 rfl rfl)
theorem dX7_mirrors_128 : decode cX7_mirrors 128 = .ok (.ireturn, 1) := dec_172 (gB drcX7_mirrors_2 0 rfl rfl)
def lkcX7_foldsOf_0 : List UInt8 := [0x03, 0x3c, 0x03, 0x3d, 0x1c, 0x2a, 0xbe, 0xa2, 0x00, 0x27, 0x1b, 0x2a, 0x03, 0x1c, 0xb8, 0x00, 0x9c, 0x99, 0x00, 0x11, 0x2a, 0x1c, 0x2a, 0xbe, 0xb8, 0x00, 0x9c, 0x99, 0x00, 0x07, 0x04, 0xa7, 0x00, 0x04, 0x03, 0xb8, 0x00, 0x4f, 0x60, 0x3c, 0x84, 0x02, 0x01, 0xa7, 0xff, 0xd9, 0x1b, 0xac]
def tkcX7_foldsOf_0 : List UInt8 := lkcX7_foldsOf_0 ++ []
theorem drcX7_foldsOf_0 : (cX7_foldsOf).data.toList.drop 0 = lkcX7_foldsOf_0 ++ [] := by decide +kernel
theorem dX7_foldsOf_0 : decode cX7_foldsOf 0 = .ok (.iconst 0, 1) := dec_3 (gB drcX7_foldsOf_0 0 rfl rfl)
theorem dX7_foldsOf_1 : decode cX7_foldsOf 1 = .ok (.istore_n 1, 1) := dec_60 (gB drcX7_foldsOf_0 1 rfl rfl)
theorem dX7_foldsOf_2 : decode cX7_foldsOf 2 = .ok (.iconst 0, 1) := dec_3 (gB drcX7_foldsOf_0 2 rfl rfl)
theorem dX7_foldsOf_3 : decode cX7_foldsOf 3 = .ok (.istore_n 2, 1) := dec_61 (gB drcX7_foldsOf_0 3 rfl rfl)
theorem dX7_foldsOf_4 : decode cX7_foldsOf 4 = .ok (.iload_n 2, 1) := dec_28 (gB drcX7_foldsOf_0 4 rfl rfl)
theorem dX7_foldsOf_5 : decode cX7_foldsOf 5 = .ok (.aload_n 0, 1) := dec_42 (gB drcX7_foldsOf_0 5 rfl rfl)
theorem dX7_foldsOf_6 : decode cX7_foldsOf 6 = .ok (.arraylength, 1) := dec_190 (gB drcX7_foldsOf_0 6 rfl rfl)
theorem dX7_foldsOf_7 : decode cX7_foldsOf 7 = .ok (.if_icmp .ge 39, 3) := e_162 (x := 0) (y := 39) drcX7_foldsOf_0 7 rfl rfl
theorem dX7_foldsOf_10 : decode cX7_foldsOf 10 = .ok (.iload_n 1, 1) := dec_27 (gB drcX7_foldsOf_0 10 rfl rfl)
theorem dX7_foldsOf_11 : decode cX7_foldsOf 11 = .ok (.aload_n 0, 1) := dec_42 (gB drcX7_foldsOf_0 11 rfl rfl)
theorem dX7_foldsOf_12 : decode cX7_foldsOf 12 = .ok (.iconst 0, 1) := dec_3 (gB drcX7_foldsOf_0 12 rfl rfl)
theorem dX7_foldsOf_13 : decode cX7_foldsOf 13 = .ok (.iload_n 2, 1) := dec_28 (gB drcX7_foldsOf_0 13 rfl rfl)
theorem dX7_foldsOf_14 : decode cX7_foldsOf 14 = .ok (.invokestatic 156, 3) := e_184 (x := 0) (y := 156) drcX7_foldsOf_0 14 rfl rfl
theorem dX7_foldsOf_17 : decode cX7_foldsOf 17 = .ok (.ifCond .eq 17, 3) := e_153 (x := 0) (y := 17) drcX7_foldsOf_0 17 rfl rfl
theorem dX7_foldsOf_20 : decode cX7_foldsOf 20 = .ok (.aload_n 0, 1) := dec_42 (gB drcX7_foldsOf_0 20 rfl rfl)
theorem dX7_foldsOf_21 : decode cX7_foldsOf 21 = .ok (.iload_n 2, 1) := dec_28 (gB drcX7_foldsOf_0 21 rfl rfl)
theorem dX7_foldsOf_22 : decode cX7_foldsOf 22 = .ok (.aload_n 0, 1) := dec_42 (gB drcX7_foldsOf_0 22 rfl rfl)
theorem dX7_foldsOf_23 : decode cX7_foldsOf 23 = .ok (.arraylength, 1) := dec_190 (gB drcX7_foldsOf_0 23 rfl rfl)
theorem dX7_foldsOf_24 : decode cX7_foldsOf 24 = .ok (.invokestatic 156, 3) := e_184 (x := 0) (y := 156) drcX7_foldsOf_0 24 rfl rfl
theorem dX7_foldsOf_27 : decode cX7_foldsOf 27 = .ok (.ifCond .eq 7, 3) := e_153 (x := 0) (y := 7) drcX7_foldsOf_0 27 rfl rfl
theorem dX7_foldsOf_30 : decode cX7_foldsOf 30 = .ok (.iconst 1, 1) := dec_4 (gB drcX7_foldsOf_0 30 rfl rfl)
theorem dX7_foldsOf_31 : decode cX7_foldsOf 31 = .ok (.goto 4, 3) := e_167 (x := 0) (y := 4) drcX7_foldsOf_0 31 rfl rfl
theorem dX7_foldsOf_34 : decode cX7_foldsOf 34 = .ok (.iconst 0, 1) := dec_3 (gB drcX7_foldsOf_0 34 rfl rfl)
theorem dX7_foldsOf_35 : decode cX7_foldsOf 35 = .ok (.invokestatic 79, 3) := e_184 (x := 0) (y := 79) drcX7_foldsOf_0 35 rfl rfl
theorem dX7_foldsOf_38 : decode cX7_foldsOf 38 = .ok (.iadd, 1) := dec_96 (gB drcX7_foldsOf_0 38 rfl rfl)
theorem dX7_foldsOf_39 : decode cX7_foldsOf 39 = .ok (.istore_n 1, 1) := dec_60 (gB drcX7_foldsOf_0 39 rfl rfl)
theorem dX7_foldsOf_40 : decode cX7_foldsOf 40 = .ok (.iinc 2 1, 3) := e_132 (x := 2) (y := 1) drcX7_foldsOf_0 40 rfl rfl
theorem dX7_foldsOf_43 : decode cX7_foldsOf 43 = .ok (.goto (-39), 3) := e_167 (x := 255) (y := 217) drcX7_foldsOf_0 43 rfl rfl
theorem dX7_foldsOf_46 : decode cX7_foldsOf 46 = .ok (.iload_n 1, 1) := dec_27 (gB drcX7_foldsOf_0 46 rfl rfl)
theorem dX7_foldsOf_47 : decode cX7_foldsOf 47 = .ok (.ireturn, 1) := dec_172 (gB drcX7_foldsOf_0 47 rfl rfl)
def lkcX7_folds_0 : List UInt8 := [0x2a, 0x1b, 0xb8, 0x00, 0x21, 0x04, 0xb6, 0x00, 0x33, 0x99, 0x00, 0x07, 0x03, 0xa7, 0x00, 0x0c, 0x2a, 0xb4, 0x00, 0x09, 0x1b, 0x32, 0xb8, 0x00, 0xb7, 0xac]
def tkcX7_folds_0 : List UInt8 := lkcX7_folds_0 ++ []
theorem drcX7_folds_0 : (cX7_folds).data.toList.drop 0 = lkcX7_folds_0 ++ [] := by decide +kernel
theorem dX7_folds_0 : decode cX7_folds 0 = .ok (.aload_n 0, 1) := dec_42 (gB drcX7_folds_0 0 rfl rfl)
theorem dX7_folds_1 : decode cX7_folds 1 = .ok (.iload_n 1, 1) := dec_27 (gB drcX7_folds_0 1 rfl rfl)
theorem dX7_folds_2 : decode cX7_folds 2 = .ok (.invokestatic 33, 3) := e_184 (x := 0) (y := 33) drcX7_folds_0 2 rfl rfl
theorem dX7_folds_5 : decode cX7_folds 5 = .ok (.iconst 1, 1) := dec_4 (gB drcX7_folds_0 5 rfl rfl)
theorem dX7_folds_6 : decode cX7_folds 6 = .ok (.invokevirtual 51, 3) := e_182 (x := 0) (y := 51) drcX7_folds_0 6 rfl rfl
theorem dX7_folds_9 : decode cX7_folds 9 = .ok (.ifCond .eq 7, 3) := e_153 (x := 0) (y := 7) drcX7_folds_0 9 rfl rfl
theorem dX7_folds_12 : decode cX7_folds 12 = .ok (.iconst 0, 1) := dec_3 (gB drcX7_folds_0 12 rfl rfl)
theorem dX7_folds_13 : decode cX7_folds 13 = .ok (.goto 12, 3) := e_167 (x := 0) (y := 12) drcX7_folds_0 13 rfl rfl
theorem dX7_folds_16 : decode cX7_folds 16 = .ok (.aload_n 0, 1) := dec_42 (gB drcX7_folds_0 16 rfl rfl)
theorem dX7_folds_17 : decode cX7_folds 17 = .ok (.getfield 9, 3) := e_180 (x := 0) (y := 9) drcX7_folds_0 17 rfl rfl
theorem dX7_folds_20 : decode cX7_folds 20 = .ok (.iload_n 1, 1) := dec_27 (gB drcX7_folds_0 20 rfl rfl)
theorem dX7_folds_21 : decode cX7_folds 21 = .ok (.aaload, 1) := dec_50 (gB drcX7_folds_0 21 rfl rfl)
theorem dX7_folds_22 : decode cX7_folds 22 = .ok (.invokestatic 183, 3) := e_184 (x := 0) (y := 183) drcX7_folds_0 22 rfl rfl
theorem dX7_folds_25 : decode cX7_folds 25 = .ok (.ireturn, 1) := dec_172 (gB drcX7_folds_0 25 rfl rfl)
def lkcX7_leastOf_0 : List UInt8 := [0x03, 0x3c, 0x04, 0x3d, 0x1c, 0x2a, 0xbe, 0xa2, 0x00, 0x3d, 0x03, 0x3e, 0x1d, 0x2a, 0xbe, 0xa2, 0x00, 0x1c, 0x2a, 0x1b, 0x1d, 0x60, 0x2a, 0xbe, 0x70, 0x2e, 0x2a, 0x1c, 0x1d, 0x60, 0x2a, 0xbe, 0x70, 0x2e, 0xa0, 0x00, 0x09, 0x84, 0x03, 0x01, 0xa7, 0xff, 0xe4, 0x1d, 0x2a, 0xbe, 0xa2, 0x00, 0x10, 0x2a, 0x1c, 0x1d, 0x60, 0x2a, 0xbe, 0x70, 0x2e, 0x9a, 0x00, 0x05, 0x1c, 0x3c, 0x84, 0x02]
def lkcX7_leastOf_1 : List UInt8 := [0x01, 0xa7, 0xff, 0xc3, 0x1b, 0xac]
def tkcX7_leastOf_1 : List UInt8 := lkcX7_leastOf_1 ++ []
def tkcX7_leastOf_0 : List UInt8 := lkcX7_leastOf_0 ++ tkcX7_leastOf_1
theorem drcX7_leastOf_0 : (cX7_leastOf).data.toList.drop 0 = lkcX7_leastOf_0 ++ tkcX7_leastOf_1 := by decide +kernel
theorem drcX7_leastOf_1 : (cX7_leastOf).data.toList.drop 64 = lkcX7_leastOf_1 ++ [] := dr_step drcX7_leastOf_0 rfl
theorem dX7_leastOf_0 : decode cX7_leastOf 0 = .ok (.iconst 0, 1) := dec_3 (gB drcX7_leastOf_0 0 rfl rfl)
theorem dX7_leastOf_1 : decode cX7_leastOf 1 = .ok (.istore_n 1, 1) := dec_60 (gB drcX7_leastOf_0 1 rfl rfl)
theorem dX7_leastOf_2 : decode cX7_leastOf 2 = .ok (.iconst 1, 1) := dec_4 (gB drcX7_leastOf_0 2 rfl rfl)
theorem dX7_leastOf_3 : decode cX7_leastOf 3 = .ok (.istore_n 2, 1) := dec_61 (gB drcX7_leastOf_0 3 rfl rfl)
theorem dX7_leastOf_4 : decode cX7_leastOf 4 = .ok (.iload_n 2, 1) := dec_28 (gB drcX7_leastOf_0 4 rfl rfl)
theorem dX7_leastOf_5 : decode cX7_leastOf 5 = .ok (.aload_n 0, 1) := dec_42 (gB drcX7_leastOf_0 5 rfl rfl)
theorem dX7_leastOf_6 : decode cX7_leastOf 6 = .ok (.arraylength, 1) := dec_190 (gB drcX7_leastOf_0 6 rfl rfl)
theorem dX7_leastOf_7 : decode cX7_leastOf 7 = .ok (.if_icmp .ge 61, 3) := e_162 (x := 0) (y := 61) drcX7_leastOf_0 7 rfl rfl
theorem dX7_leastOf_10 : decode cX7_leastOf 10 = .ok (.iconst 0, 1) := dec_3 (gB drcX7_leastOf_0 10 rfl rfl)
theorem dX7_leastOf_11 : decode cX7_leastOf 11 = .ok (.istore_n 3, 1) := dec_62 (gB drcX7_leastOf_0 11 rfl rfl)
theorem dX7_leastOf_12 : decode cX7_leastOf 12 = .ok (.iload_n 3, 1) := dec_29 (gB drcX7_leastOf_0 12 rfl rfl)
theorem dX7_leastOf_13 : decode cX7_leastOf 13 = .ok (.aload_n 0, 1) := dec_42 (gB drcX7_leastOf_0 13 rfl rfl)
theorem dX7_leastOf_14 : decode cX7_leastOf 14 = .ok (.arraylength, 1) := dec_190 (gB drcX7_leastOf_0 14 rfl rfl)
theorem dX7_leastOf_15 : decode cX7_leastOf 15 = .ok (.if_icmp .ge 28, 3) := e_162 (x := 0) (y := 28) drcX7_leastOf_0 15 rfl rfl
theorem dX7_leastOf_18 : decode cX7_leastOf 18 = .ok (.aload_n 0, 1) := dec_42 (gB drcX7_leastOf_0 18 rfl rfl)
theorem dX7_leastOf_19 : decode cX7_leastOf 19 = .ok (.iload_n 1, 1) := dec_27 (gB drcX7_leastOf_0 19 rfl rfl)
theorem dX7_leastOf_20 : decode cX7_leastOf 20 = .ok (.iload_n 3, 1) := dec_29 (gB drcX7_leastOf_0 20 rfl rfl)
theorem dX7_leastOf_21 : decode cX7_leastOf 21 = .ok (.iadd, 1) := dec_96 (gB drcX7_leastOf_0 21 rfl rfl)
theorem dX7_leastOf_22 : decode cX7_leastOf 22 = .ok (.aload_n 0, 1) := dec_42 (gB drcX7_leastOf_0 22 rfl rfl)
theorem dX7_leastOf_23 : decode cX7_leastOf 23 = .ok (.arraylength, 1) := dec_190 (gB drcX7_leastOf_0 23 rfl rfl)
theorem dX7_leastOf_24 : decode cX7_leastOf 24 = .ok (.irem, 1) := dec_112 (gB drcX7_leastOf_0 24 rfl rfl)
theorem dX7_leastOf_25 : decode cX7_leastOf 25 = .ok (.iaload, 1) := dec_46 (gB drcX7_leastOf_0 25 rfl rfl)
theorem dX7_leastOf_26 : decode cX7_leastOf 26 = .ok (.aload_n 0, 1) := dec_42 (gB drcX7_leastOf_0 26 rfl rfl)
theorem dX7_leastOf_27 : decode cX7_leastOf 27 = .ok (.iload_n 2, 1) := dec_28 (gB drcX7_leastOf_0 27 rfl rfl)
theorem dX7_leastOf_28 : decode cX7_leastOf 28 = .ok (.iload_n 3, 1) := dec_29 (gB drcX7_leastOf_0 28 rfl rfl)
theorem dX7_leastOf_29 : decode cX7_leastOf 29 = .ok (.iadd, 1) := dec_96 (gB drcX7_leastOf_0 29 rfl rfl)
theorem dX7_leastOf_30 : decode cX7_leastOf 30 = .ok (.aload_n 0, 1) := dec_42 (gB drcX7_leastOf_0 30 rfl rfl)
theorem dX7_leastOf_31 : decode cX7_leastOf 31 = .ok (.arraylength, 1) := dec_190 (gB drcX7_leastOf_0 31 rfl rfl)
theorem dX7_leastOf_32 : decode cX7_leastOf 32 = .ok (.irem, 1) := dec_112 (gB drcX7_leastOf_0 32 rfl rfl)
theorem dX7_leastOf_33 : decode cX7_leastOf 33 = .ok (.iaload, 1) := dec_46 (gB drcX7_leastOf_0 33 rfl rfl)
theorem dX7_leastOf_34 : decode cX7_leastOf 34 = .ok (.if_icmp .ne 9, 3) := e_160 (x := 0) (y := 9) drcX7_leastOf_0 34 rfl rfl
theorem dX7_leastOf_37 : decode cX7_leastOf 37 = .ok (.iinc 3 1, 3) := e_132 (x := 3) (y := 1) drcX7_leastOf_0 37 rfl rfl
theorem dX7_leastOf_40 : decode cX7_leastOf 40 = .ok (.goto (-28), 3) := e_167 (x := 255) (y := 228) drcX7_leastOf_0 40 rfl rfl
theorem dX7_leastOf_43 : decode cX7_leastOf 43 = .ok (.iload_n 3, 1) := dec_29 (gB drcX7_leastOf_0 43 rfl rfl)
theorem dX7_leastOf_44 : decode cX7_leastOf 44 = .ok (.aload_n 0, 1) := dec_42 (gB drcX7_leastOf_0 44 rfl rfl)
theorem dX7_leastOf_45 : decode cX7_leastOf 45 = .ok (.arraylength, 1) := dec_190 (gB drcX7_leastOf_0 45 rfl rfl)
theorem dX7_leastOf_46 : decode cX7_leastOf 46 = .ok (.if_icmp .ge 16, 3) := e_162 (x := 0) (y := 16) drcX7_leastOf_0 46 rfl rfl
theorem dX7_leastOf_49 : decode cX7_leastOf 49 = .ok (.aload_n 0, 1) := dec_42 (gB drcX7_leastOf_0 49 rfl rfl)
theorem dX7_leastOf_50 : decode cX7_leastOf 50 = .ok (.iload_n 2, 1) := dec_28 (gB drcX7_leastOf_0 50 rfl rfl)
theorem dX7_leastOf_51 : decode cX7_leastOf 51 = .ok (.iload_n 3, 1) := dec_29 (gB drcX7_leastOf_0 51 rfl rfl)
theorem dX7_leastOf_52 : decode cX7_leastOf 52 = .ok (.iadd, 1) := dec_96 (gB drcX7_leastOf_0 52 rfl rfl)
theorem dX7_leastOf_53 : decode cX7_leastOf 53 = .ok (.aload_n 0, 1) := dec_42 (gB drcX7_leastOf_0 53 rfl rfl)
theorem dX7_leastOf_54 : decode cX7_leastOf 54 = .ok (.arraylength, 1) := dec_190 (gB drcX7_leastOf_0 54 rfl rfl)
theorem dX7_leastOf_55 : decode cX7_leastOf 55 = .ok (.irem, 1) := dec_112 (gB drcX7_leastOf_0 55 rfl rfl)
theorem dX7_leastOf_56 : decode cX7_leastOf 56 = .ok (.iaload, 1) := dec_46 (gB drcX7_leastOf_0 56 rfl rfl)
theorem dX7_leastOf_57 : decode cX7_leastOf 57 = .ok (.ifCond .ne 5, 3) := e_154 (x := 0) (y := 5) drcX7_leastOf_0 57 rfl rfl
theorem dX7_leastOf_60 : decode cX7_leastOf 60 = .ok (.iload_n 2, 1) := dec_28 (gB drcX7_leastOf_0 60 rfl rfl)
theorem dX7_leastOf_61 : decode cX7_leastOf 61 = .ok (.istore_n 1, 1) := dec_60 (gB drcX7_leastOf_0 61 rfl rfl)
theorem dX7_leastOf_62 : decode cX7_leastOf 62 = .ok (.iinc 2 1, 3) := dec_132 (a := 2) (b := 1) (gB drcX7_leastOf_0 62 rfl rfl) (gB drcX7_leastOf_0 63 rfl rfl) (gB drcX7_leastOf_1 0 rfl rfl)
theorem dX7_leastOf_65 : decode cX7_leastOf 65 = .ok (.goto (-61), 3) := e_167 (x := 255) (y := 195) drcX7_leastOf_1 1 rfl rfl
theorem dX7_leastOf_68 : decode cX7_leastOf 68 = .ok (.iload_n 1, 1) := dec_27 (gB drcX7_leastOf_1 4 rfl rfl)
theorem dX7_leastOf_69 : decode cX7_leastOf 69 = .ok (.ireturn, 1) := dec_172 (gB drcX7_leastOf_1 5 rfl rfl)
def lkcX7_least_0 : List UInt8 := [0x2a, 0x1b, 0xb8, 0x00, 0x21, 0x04, 0xb6, 0x00, 0x33, 0x99, 0x00, 0x07, 0x03, 0xa7, 0x00, 0x0c, 0x2a, 0xb4, 0x00, 0x09, 0x1b, 0x32, 0xb8, 0x00, 0xba, 0xac]
def tkcX7_least_0 : List UInt8 := lkcX7_least_0 ++ []
theorem drcX7_least_0 : (cX7_least).data.toList.drop 0 = lkcX7_least_0 ++ [] := by decide +kernel
theorem dX7_least_0 : decode cX7_least 0 = .ok (.aload_n 0, 1) := dec_42 (gB drcX7_least_0 0 rfl rfl)
theorem dX7_least_1 : decode cX7_least 1 = .ok (.iload_n 1, 1) := dec_27 (gB drcX7_least_0 1 rfl rfl)
theorem dX7_least_2 : decode cX7_least 2 = .ok (.invokestatic 33, 3) := e_184 (x := 0) (y := 33) drcX7_least_0 2 rfl rfl
theorem dX7_least_5 : decode cX7_least 5 = .ok (.iconst 1, 1) := dec_4 (gB drcX7_least_0 5 rfl rfl)
theorem dX7_least_6 : decode cX7_least 6 = .ok (.invokevirtual 51, 3) := e_182 (x := 0) (y := 51) drcX7_least_0 6 rfl rfl
theorem dX7_least_9 : decode cX7_least 9 = .ok (.ifCond .eq 7, 3) := e_153 (x := 0) (y := 7) drcX7_least_0 9 rfl rfl
theorem dX7_least_12 : decode cX7_least 12 = .ok (.iconst 0, 1) := dec_3 (gB drcX7_least_0 12 rfl rfl)
theorem dX7_least_13 : decode cX7_least 13 = .ok (.goto 12, 3) := e_167 (x := 0) (y := 12) drcX7_least_0 13 rfl rfl
theorem dX7_least_16 : decode cX7_least 16 = .ok (.aload_n 0, 1) := dec_42 (gB drcX7_least_0 16 rfl rfl)
theorem dX7_least_17 : decode cX7_least 17 = .ok (.getfield 9, 3) := e_180 (x := 0) (y := 9) drcX7_least_0 17 rfl rfl
theorem dX7_least_20 : decode cX7_least 20 = .ok (.iload_n 1, 1) := dec_27 (gB drcX7_least_0 20 rfl rfl)
theorem dX7_least_21 : decode cX7_least 21 = .ok (.aaload, 1) := dec_50 (gB drcX7_least_0 21 rfl rfl)
theorem dX7_least_22 : decode cX7_least 22 = .ok (.invokestatic 186, 3) := e_184 (x := 0) (y := 186) drcX7_least_0 22 rfl rfl
theorem dX7_least_25 : decode cX7_least 25 = .ok (.ireturn, 1) := dec_172 (gB drcX7_least_0 25 rfl rfl)
def lkcX7_isApart_0 : List UInt8 := [0x2a, 0x1b, 0x1c, 0xb8, 0x00, 0x68, 0x04, 0xb6, 0x00, 0x33, 0x9a, 0x00, 0x0f, 0x1b, 0x1c, 0xb8, 0x00, 0x6b, 0x99, 0x00, 0x07, 0x04, 0xa7, 0x00, 0x04, 0x03, 0xac]
def tkcX7_isApart_0 : List UInt8 := lkcX7_isApart_0 ++ []
theorem drcX7_isApart_0 : (cX7_isApart).data.toList.drop 0 = lkcX7_isApart_0 ++ [] := by decide +kernel
theorem dX7_isApart_0 : decode cX7_isApart 0 = .ok (.aload_n 0, 1) := dec_42 (gB drcX7_isApart_0 0 rfl rfl)
theorem dX7_isApart_1 : decode cX7_isApart 1 = .ok (.iload_n 1, 1) := dec_27 (gB drcX7_isApart_0 1 rfl rfl)
theorem dX7_isApart_2 : decode cX7_isApart 2 = .ok (.iload_n 2, 1) := dec_28 (gB drcX7_isApart_0 2 rfl rfl)
theorem dX7_isApart_3 : decode cX7_isApart 3 = .ok (.invokestatic 104, 3) := e_184 (x := 0) (y := 104) drcX7_isApart_0 3 rfl rfl
theorem dX7_isApart_6 : decode cX7_isApart 6 = .ok (.iconst 1, 1) := dec_4 (gB drcX7_isApart_0 6 rfl rfl)
theorem dX7_isApart_7 : decode cX7_isApart 7 = .ok (.invokevirtual 51, 3) := e_182 (x := 0) (y := 51) drcX7_isApart_0 7 rfl rfl
theorem dX7_isApart_10 : decode cX7_isApart 10 = .ok (.ifCond .ne 15, 3) := e_154 (x := 0) (y := 15) drcX7_isApart_0 10 rfl rfl
theorem dX7_isApart_13 : decode cX7_isApart 13 = .ok (.iload_n 1, 1) := dec_27 (gB drcX7_isApart_0 13 rfl rfl)
theorem dX7_isApart_14 : decode cX7_isApart 14 = .ok (.iload_n 2, 1) := dec_28 (gB drcX7_isApart_0 14 rfl rfl)
theorem dX7_isApart_15 : decode cX7_isApart 15 = .ok (.invokestatic 107, 3) := e_184 (x := 0) (y := 107) drcX7_isApart_0 15 rfl rfl
theorem dX7_isApart_18 : decode cX7_isApart 18 = .ok (.ifCond .eq 7, 3) := e_153 (x := 0) (y := 7) drcX7_isApart_0 18 rfl rfl
theorem dX7_isApart_21 : decode cX7_isApart 21 = .ok (.iconst 1, 1) := dec_4 (gB drcX7_isApart_0 21 rfl rfl)
theorem dX7_isApart_22 : decode cX7_isApart 22 = .ok (.goto 4, 3) := e_167 (x := 0) (y := 4) drcX7_isApart_0 22 rfl rfl
theorem dX7_isApart_25 : decode cX7_isApart 25 = .ok (.iconst 0, 1) := dec_3 (gB drcX7_isApart_0 25 rfl rfl)
theorem dX7_isApart_26 : decode cX7_isApart 26 = .ok (.ireturn, 1) := dec_172 (gB drcX7_isApart_0 26 rfl rfl)
def lkcX7_turns_0 : List UInt8 := [0x2a, 0x1b, 0xb8, 0x00, 0x71, 0x04, 0xb6, 0x00, 0x33, 0x99, 0x00, 0x06, 0x12, 0x96, 0xb0, 0xbb, 0x00, 0x8b, 0x59, 0xb7, 0x00, 0x8d, 0x4d, 0x03, 0x3e, 0x1d, 0x2a, 0xb4, 0x00, 0x12, 0x1b, 0x2e, 0xa2, 0x00, 0x16, 0x2c, 0x2a, 0xb4, 0x00, 0x0f, 0x1b, 0x32, 0x1d, 0x2e, 0xb6, 0x00, 0xbd, 0x57, 0x84, 0x03, 0x01, 0xa7, 0xff, 0xe6, 0x2c, 0xb6, 0x00, 0x92, 0xb0]
def tkcX7_turns_0 : List UInt8 := lkcX7_turns_0 ++ []
theorem drcX7_turns_0 : (cX7_turns).data.toList.drop 0 = lkcX7_turns_0 ++ [] := by decide +kernel
theorem dX7_turns_0 : decode cX7_turns 0 = .ok (.aload_n 0, 1) := dec_42 (gB drcX7_turns_0 0 rfl rfl)
theorem dX7_turns_1 : decode cX7_turns 1 = .ok (.iload_n 1, 1) := dec_27 (gB drcX7_turns_0 1 rfl rfl)
theorem dX7_turns_2 : decode cX7_turns 2 = .ok (.invokestatic 113, 3) := e_184 (x := 0) (y := 113) drcX7_turns_0 2 rfl rfl
theorem dX7_turns_5 : decode cX7_turns 5 = .ok (.iconst 1, 1) := dec_4 (gB drcX7_turns_0 5 rfl rfl)
theorem dX7_turns_6 : decode cX7_turns 6 = .ok (.invokevirtual 51, 3) := e_182 (x := 0) (y := 51) drcX7_turns_0 6 rfl rfl
theorem dX7_turns_9 : decode cX7_turns 9 = .ok (.ifCond .eq 6, 3) := e_153 (x := 0) (y := 6) drcX7_turns_0 9 rfl rfl
theorem dX7_turns_12 : decode cX7_turns 12 = .ok (.ldc 150, 2) := e_18 (x := 150) drcX7_turns_0 12 rfl rfl
theorem dX7_turns_14 : decode cX7_turns 14 = .ok (.areturn, 1) := dec_176 (gB drcX7_turns_0 14 rfl rfl)
theorem dX7_turns_15 : decode cX7_turns 15 = .ok (.new 139, 3) := e_187 (x := 0) (y := 139) drcX7_turns_0 15 rfl rfl
theorem dX7_turns_18 : decode cX7_turns 18 = .ok (.dup, 1) := dec_89 (gB drcX7_turns_0 18 rfl rfl)
theorem dX7_turns_19 : decode cX7_turns 19 = .ok (.invokespecial 141, 3) := e_183 (x := 0) (y := 141) drcX7_turns_0 19 rfl rfl
theorem dX7_turns_22 : decode cX7_turns 22 = .ok (.astore_n 2, 1) := dec_77 (gB drcX7_turns_0 22 rfl rfl)
theorem dX7_turns_23 : decode cX7_turns 23 = .ok (.iconst 0, 1) := dec_3 (gB drcX7_turns_0 23 rfl rfl)
theorem dX7_turns_24 : decode cX7_turns 24 = .ok (.istore_n 3, 1) := dec_62 (gB drcX7_turns_0 24 rfl rfl)
theorem dX7_turns_25 : decode cX7_turns 25 = .ok (.iload_n 3, 1) := dec_29 (gB drcX7_turns_0 25 rfl rfl)
theorem dX7_turns_26 : decode cX7_turns 26 = .ok (.aload_n 0, 1) := dec_42 (gB drcX7_turns_0 26 rfl rfl)
theorem dX7_turns_27 : decode cX7_turns 27 = .ok (.getfield 18, 3) := e_180 (x := 0) (y := 18) drcX7_turns_0 27 rfl rfl
theorem dX7_turns_30 : decode cX7_turns 30 = .ok (.iload_n 1, 1) := dec_27 (gB drcX7_turns_0 30 rfl rfl)
theorem dX7_turns_31 : decode cX7_turns 31 = .ok (.iaload, 1) := dec_46 (gB drcX7_turns_0 31 rfl rfl)
theorem dX7_turns_32 : decode cX7_turns 32 = .ok (.if_icmp .ge 22, 3) := e_162 (x := 0) (y := 22) drcX7_turns_0 32 rfl rfl
theorem dX7_turns_35 : decode cX7_turns 35 = .ok (.aload_n 2, 1) := dec_44 (gB drcX7_turns_0 35 rfl rfl)
theorem dX7_turns_36 : decode cX7_turns 36 = .ok (.aload_n 0, 1) := dec_42 (gB drcX7_turns_0 36 rfl rfl)
theorem dX7_turns_37 : decode cX7_turns 37 = .ok (.getfield 15, 3) := e_180 (x := 0) (y := 15) drcX7_turns_0 37 rfl rfl
theorem dX7_turns_40 : decode cX7_turns 40 = .ok (.iload_n 1, 1) := dec_27 (gB drcX7_turns_0 40 rfl rfl)
theorem dX7_turns_41 : decode cX7_turns 41 = .ok (.aaload, 1) := dec_50 (gB drcX7_turns_0 41 rfl rfl)
theorem dX7_turns_42 : decode cX7_turns 42 = .ok (.iload_n 3, 1) := dec_29 (gB drcX7_turns_0 42 rfl rfl)
theorem dX7_turns_43 : decode cX7_turns 43 = .ok (.iaload, 1) := dec_46 (gB drcX7_turns_0 43 rfl rfl)
theorem dX7_turns_44 : decode cX7_turns 44 = .ok (.invokevirtual 189, 3) := e_182 (x := 0) (y := 189) drcX7_turns_0 44 rfl rfl
theorem dX7_turns_47 : decode cX7_turns 47 = .ok (.pop, 1) := dec_87 (gB drcX7_turns_0 47 rfl rfl)
theorem dX7_turns_48 : decode cX7_turns 48 = .ok (.iinc 3 1, 3) := e_132 (x := 3) (y := 1) drcX7_turns_0 48 rfl rfl
theorem dX7_turns_51 : decode cX7_turns 51 = .ok (.goto (-26), 3) := e_167 (x := 255) (y := 230) drcX7_turns_0 51 rfl rfl
theorem dX7_turns_54 : decode cX7_turns 54 = .ok (.aload_n 2, 1) := dec_44 (gB drcX7_turns_0 54 rfl rfl)
theorem dX7_turns_55 : decode cX7_turns 55 = .ok (.invokevirtual 146, 3) := e_182 (x := 0) (y := 146) drcX7_turns_0 55 rfl rfl
theorem dX7_turns_58 : decode cX7_turns 58 = .ok (.areturn, 1) := dec_176 (gB drcX7_turns_0 58 rfl rfl)
def lkcX7_grown_0 : List UInt8 := [0x2a, 0x1b, 0xb8, 0x00, 0x71, 0x04, 0xb6, 0x00, 0x33, 0x99, 0x00, 0x08, 0x12, 0x96, 0xa7, 0x00, 0x0c, 0x2a, 0x1b, 0x1c, 0xb6, 0x00, 0xc0, 0xb8, 0x00, 0x98, 0xb0]
def tkcX7_grown_0 : List UInt8 := lkcX7_grown_0 ++ []
theorem drcX7_grown_0 : (cX7_grown).data.toList.drop 0 = lkcX7_grown_0 ++ [] := by decide +kernel
theorem dX7_grown_0 : decode cX7_grown 0 = .ok (.aload_n 0, 1) := dec_42 (gB drcX7_grown_0 0 rfl rfl)
theorem dX7_grown_1 : decode cX7_grown 1 = .ok (.iload_n 1, 1) := dec_27 (gB drcX7_grown_0 1 rfl rfl)
theorem dX7_grown_2 : decode cX7_grown 2 = .ok (.invokestatic 113, 3) := e_184 (x := 0) (y := 113) drcX7_grown_0 2 rfl rfl
theorem dX7_grown_5 : decode cX7_grown 5 = .ok (.iconst 1, 1) := dec_4 (gB drcX7_grown_0 5 rfl rfl)
theorem dX7_grown_6 : decode cX7_grown 6 = .ok (.invokevirtual 51, 3) := e_182 (x := 0) (y := 51) drcX7_grown_0 6 rfl rfl
theorem dX7_grown_9 : decode cX7_grown 9 = .ok (.ifCond .eq 8, 3) := e_153 (x := 0) (y := 8) drcX7_grown_0 9 rfl rfl
theorem dX7_grown_12 : decode cX7_grown 12 = .ok (.ldc 150, 2) := e_18 (x := 150) drcX7_grown_0 12 rfl rfl
theorem dX7_grown_14 : decode cX7_grown 14 = .ok (.goto 12, 3) := e_167 (x := 0) (y := 12) drcX7_grown_0 14 rfl rfl
theorem dX7_grown_17 : decode cX7_grown 17 = .ok (.aload_n 0, 1) := dec_42 (gB drcX7_grown_0 17 rfl rfl)
theorem dX7_grown_18 : decode cX7_grown 18 = .ok (.iload_n 1, 1) := dec_27 (gB drcX7_grown_0 18 rfl rfl)
theorem dX7_grown_19 : decode cX7_grown 19 = .ok (.iload_n 2, 1) := dec_28 (gB drcX7_grown_0 19 rfl rfl)
theorem dX7_grown_20 : decode cX7_grown 20 = .ok (.invokevirtual 192, 3) := e_182 (x := 0) (y := 192) drcX7_grown_0 20 rfl rfl
theorem dX7_grown_23 : decode cX7_grown 23 = .ok (.invokestatic 152, 3) := e_184 (x := 0) (y := 152) drcX7_grown_0 23 rfl rfl
theorem dX7_grown_26 : decode cX7_grown 26 = .ok (.areturn, 1) := dec_176 (gB drcX7_grown_0 26 rfl rfl)
def lkcX7_size_0 : List UInt8 := [0x2a, 0x1b, 0xb8, 0x00, 0x71, 0x04, 0xb6, 0x00, 0x33, 0x99, 0x00, 0x07, 0x03, 0xa7, 0x00, 0x0a, 0x2a, 0x1b, 0x1c, 0xb6, 0x00, 0xc0, 0xbe, 0xac]
def tkcX7_size_0 : List UInt8 := lkcX7_size_0 ++ []
theorem drcX7_size_0 : (cX7_size).data.toList.drop 0 = lkcX7_size_0 ++ [] := by decide +kernel
theorem dX7_size_0 : decode cX7_size 0 = .ok (.aload_n 0, 1) := dec_42 (gB drcX7_size_0 0 rfl rfl)
theorem dX7_size_1 : decode cX7_size 1 = .ok (.iload_n 1, 1) := dec_27 (gB drcX7_size_0 1 rfl rfl)
theorem dX7_size_2 : decode cX7_size 2 = .ok (.invokestatic 113, 3) := e_184 (x := 0) (y := 113) drcX7_size_0 2 rfl rfl
theorem dX7_size_5 : decode cX7_size 5 = .ok (.iconst 1, 1) := dec_4 (gB drcX7_size_0 5 rfl rfl)
theorem dX7_size_6 : decode cX7_size 6 = .ok (.invokevirtual 51, 3) := e_182 (x := 0) (y := 51) drcX7_size_0 6 rfl rfl
theorem dX7_size_9 : decode cX7_size 9 = .ok (.ifCond .eq 7, 3) := e_153 (x := 0) (y := 7) drcX7_size_0 9 rfl rfl
theorem dX7_size_12 : decode cX7_size 12 = .ok (.iconst 0, 1) := dec_3 (gB drcX7_size_0 12 rfl rfl)
theorem dX7_size_13 : decode cX7_size 13 = .ok (.goto 10, 3) := e_167 (x := 0) (y := 10) drcX7_size_0 13 rfl rfl
theorem dX7_size_16 : decode cX7_size 16 = .ok (.aload_n 0, 1) := dec_42 (gB drcX7_size_0 16 rfl rfl)
theorem dX7_size_17 : decode cX7_size 17 = .ok (.iload_n 1, 1) := dec_27 (gB drcX7_size_0 17 rfl rfl)
theorem dX7_size_18 : decode cX7_size 18 = .ok (.iload_n 2, 1) := dec_28 (gB drcX7_size_0 18 rfl rfl)
theorem dX7_size_19 : decode cX7_size 19 = .ok (.invokevirtual 192, 3) := e_182 (x := 0) (y := 192) drcX7_size_0 19 rfl rfl
theorem dX7_size_22 : decode cX7_size 22 = .ok (.arraylength, 1) := dec_190 (gB drcX7_size_0 22 rfl rfl)
theorem dX7_size_23 : decode cX7_size 23 = .ok (.ireturn, 1) := dec_172 (gB drcX7_size_0 23 rfl rfl)
def lkcX7_ups_0 : List UInt8 := [0x2a, 0x1b, 0xb8, 0x00, 0x71, 0x04, 0xb6, 0x00, 0x33, 0x99, 0x00, 0x07, 0x03, 0xa7, 0x00, 0x0c, 0x2a, 0x1b, 0x1c, 0xb6, 0x00, 0xc0, 0xb8, 0x00, 0x29, 0xac]
def tkcX7_ups_0 : List UInt8 := lkcX7_ups_0 ++ []
theorem drcX7_ups_0 : (cX7_ups).data.toList.drop 0 = lkcX7_ups_0 ++ [] := by decide +kernel
theorem dX7_ups_0 : decode cX7_ups 0 = .ok (.aload_n 0, 1) := dec_42 (gB drcX7_ups_0 0 rfl rfl)
theorem dX7_ups_1 : decode cX7_ups 1 = .ok (.iload_n 1, 1) := dec_27 (gB drcX7_ups_0 1 rfl rfl)
theorem dX7_ups_2 : decode cX7_ups 2 = .ok (.invokestatic 113, 3) := e_184 (x := 0) (y := 113) drcX7_ups_0 2 rfl rfl
theorem dX7_ups_5 : decode cX7_ups 5 = .ok (.iconst 1, 1) := dec_4 (gB drcX7_ups_0 5 rfl rfl)
theorem dX7_ups_6 : decode cX7_ups 6 = .ok (.invokevirtual 51, 3) := e_182 (x := 0) (y := 51) drcX7_ups_0 6 rfl rfl
theorem dX7_ups_9 : decode cX7_ups 9 = .ok (.ifCond .eq 7, 3) := e_153 (x := 0) (y := 7) drcX7_ups_0 9 rfl rfl
theorem dX7_ups_12 : decode cX7_ups 12 = .ok (.iconst 0, 1) := dec_3 (gB drcX7_ups_0 12 rfl rfl)
theorem dX7_ups_13 : decode cX7_ups 13 = .ok (.goto 12, 3) := e_167 (x := 0) (y := 12) drcX7_ups_0 13 rfl rfl
theorem dX7_ups_16 : decode cX7_ups 16 = .ok (.aload_n 0, 1) := dec_42 (gB drcX7_ups_0 16 rfl rfl)
theorem dX7_ups_17 : decode cX7_ups 17 = .ok (.iload_n 1, 1) := dec_27 (gB drcX7_ups_0 17 rfl rfl)
theorem dX7_ups_18 : decode cX7_ups 18 = .ok (.iload_n 2, 1) := dec_28 (gB drcX7_ups_0 18 rfl rfl)
theorem dX7_ups_19 : decode cX7_ups 19 = .ok (.invokevirtual 192, 3) := e_182 (x := 0) (y := 192) drcX7_ups_0 19 rfl rfl
theorem dX7_ups_22 : decode cX7_ups 22 = .ok (.invokestatic 41, 3) := e_184 (x := 0) (y := 41) drcX7_ups_0 22 rfl rfl
theorem dX7_ups_25 : decode cX7_ups 25 = .ok (.ireturn, 1) := dec_172 (gB drcX7_ups_0 25 rfl rfl)
def lkcX7_crossOf_0 : List UInt8 := [0x2a, 0xbe, 0x2b, 0xb8, 0x00, 0x29, 0x68, 0x2b, 0xbe, 0x2a, 0xb8, 0x00, 0x29, 0x68, 0x64, 0xac]
def tkcX7_crossOf_0 : List UInt8 := lkcX7_crossOf_0 ++ []
theorem drcX7_crossOf_0 : (cX7_crossOf).data.toList.drop 0 = lkcX7_crossOf_0 ++ [] := by decide +kernel
theorem dX7_crossOf_0 : decode cX7_crossOf 0 = .ok (.aload_n 0, 1) := dec_42 (gB drcX7_crossOf_0 0 rfl rfl)
theorem dX7_crossOf_1 : decode cX7_crossOf 1 = .ok (.arraylength, 1) := dec_190 (gB drcX7_crossOf_0 1 rfl rfl)
theorem dX7_crossOf_2 : decode cX7_crossOf 2 = .ok (.aload_n 1, 1) := dec_43 (gB drcX7_crossOf_0 2 rfl rfl)
theorem dX7_crossOf_3 : decode cX7_crossOf 3 = .ok (.invokestatic 41, 3) := e_184 (x := 0) (y := 41) drcX7_crossOf_0 3 rfl rfl
theorem dX7_crossOf_6 : decode cX7_crossOf 6 = .ok (.imul, 1) := dec_104 (gB drcX7_crossOf_0 6 rfl rfl)
theorem dX7_crossOf_7 : decode cX7_crossOf 7 = .ok (.aload_n 1, 1) := dec_43 (gB drcX7_crossOf_0 7 rfl rfl)
theorem dX7_crossOf_8 : decode cX7_crossOf 8 = .ok (.arraylength, 1) := dec_190 (gB drcX7_crossOf_0 8 rfl rfl)
theorem dX7_crossOf_9 : decode cX7_crossOf 9 = .ok (.aload_n 0, 1) := dec_42 (gB drcX7_crossOf_0 9 rfl rfl)
theorem dX7_crossOf_10 : decode cX7_crossOf 10 = .ok (.invokestatic 41, 3) := e_184 (x := 0) (y := 41) drcX7_crossOf_0 10 rfl rfl
theorem dX7_crossOf_13 : decode cX7_crossOf 13 = .ok (.imul, 1) := dec_104 (gB drcX7_crossOf_0 13 rfl rfl)
theorem dX7_crossOf_14 : decode cX7_crossOf 14 = .ok (.isub, 1) := dec_100 (gB drcX7_crossOf_0 14 rfl rfl)
theorem dX7_crossOf_15 : decode cX7_crossOf 15 = .ok (.ireturn, 1) := dec_172 (gB drcX7_crossOf_0 15 rfl rfl)
def lkcX7_cross_0 : List UInt8 := [0x2a, 0x1b, 0xb8, 0x00, 0x71, 0x04, 0xb6, 0x00, 0x33, 0x99, 0x00, 0x07, 0x03, 0xa7, 0x00, 0x12, 0x2a, 0x1b, 0x03, 0xb6, 0x00, 0xc0, 0x2a, 0x1b, 0x04, 0xb6, 0x00, 0xc0, 0xb8, 0x00, 0xc4, 0xac]
def tkcX7_cross_0 : List UInt8 := lkcX7_cross_0 ++ []
theorem drcX7_cross_0 : (cX7_cross).data.toList.drop 0 = lkcX7_cross_0 ++ [] := by decide +kernel
theorem dX7_cross_0 : decode cX7_cross 0 = .ok (.aload_n 0, 1) := dec_42 (gB drcX7_cross_0 0 rfl rfl)
theorem dX7_cross_1 : decode cX7_cross 1 = .ok (.iload_n 1, 1) := dec_27 (gB drcX7_cross_0 1 rfl rfl)
theorem dX7_cross_2 : decode cX7_cross 2 = .ok (.invokestatic 113, 3) := e_184 (x := 0) (y := 113) drcX7_cross_0 2 rfl rfl
theorem dX7_cross_5 : decode cX7_cross 5 = .ok (.iconst 1, 1) := dec_4 (gB drcX7_cross_0 5 rfl rfl)
theorem dX7_cross_6 : decode cX7_cross 6 = .ok (.invokevirtual 51, 3) := e_182 (x := 0) (y := 51) drcX7_cross_0 6 rfl rfl
theorem dX7_cross_9 : decode cX7_cross 9 = .ok (.ifCond .eq 7, 3) := e_153 (x := 0) (y := 7) drcX7_cross_0 9 rfl rfl
theorem dX7_cross_12 : decode cX7_cross 12 = .ok (.iconst 0, 1) := dec_3 (gB drcX7_cross_0 12 rfl rfl)
theorem dX7_cross_13 : decode cX7_cross 13 = .ok (.goto 18, 3) := e_167 (x := 0) (y := 18) drcX7_cross_0 13 rfl rfl
theorem dX7_cross_16 : decode cX7_cross 16 = .ok (.aload_n 0, 1) := dec_42 (gB drcX7_cross_0 16 rfl rfl)
theorem dX7_cross_17 : decode cX7_cross 17 = .ok (.iload_n 1, 1) := dec_27 (gB drcX7_cross_0 17 rfl rfl)
theorem dX7_cross_18 : decode cX7_cross 18 = .ok (.iconst 0, 1) := dec_3 (gB drcX7_cross_0 18 rfl rfl)
theorem dX7_cross_19 : decode cX7_cross 19 = .ok (.invokevirtual 192, 3) := e_182 (x := 0) (y := 192) drcX7_cross_0 19 rfl rfl
theorem dX7_cross_22 : decode cX7_cross 22 = .ok (.aload_n 0, 1) := dec_42 (gB drcX7_cross_0 22 rfl rfl)
theorem dX7_cross_23 : decode cX7_cross 23 = .ok (.iload_n 1, 1) := dec_27 (gB drcX7_cross_0 23 rfl rfl)
theorem dX7_cross_24 : decode cX7_cross 24 = .ok (.iconst 1, 1) := dec_4 (gB drcX7_cross_0 24 rfl rfl)
theorem dX7_cross_25 : decode cX7_cross 25 = .ok (.invokevirtual 192, 3) := e_182 (x := 0) (y := 192) drcX7_cross_0 25 rfl rfl
theorem dX7_cross_28 : decode cX7_cross 28 = .ok (.invokestatic 196, 3) := e_184 (x := 0) (y := 196) drcX7_cross_0 28 rfl rfl
theorem dX7_cross_31 : decode cX7_cross 31 = .ok (.ireturn, 1) := dec_172 (gB drcX7_cross_0 31 rfl rfl)
def lkcX7_alikeOf_0 : List UInt8 := [0x2a, 0x2a, 0xbe, 0x2a, 0xbe, 0x2b, 0xb8, 0x00, 0x43, 0x4d, 0x2b, 0x2b, 0xbe, 0x2b, 0xbe, 0x2a, 0xb8, 0x00, 0x43, 0x4e, 0x03, 0x36, 0x04, 0x2c, 0x15, 0x04, 0x2e, 0x2d, 0x15, 0x04, 0x2e, 0xa0, 0x00, 0x09, 0x84, 0x04, 0x01, 0xa7, 0xff, 0xf2, 0x15, 0x04, 0xac]
def tkcX7_alikeOf_0 : List UInt8 := lkcX7_alikeOf_0 ++ []
theorem drcX7_alikeOf_0 : (cX7_alikeOf).data.toList.drop 0 = lkcX7_alikeOf_0 ++ [] := by decide +kernel
theorem dX7_alikeOf_0 : decode cX7_alikeOf 0 = .ok (.aload_n 0, 1) := dec_42 (gB drcX7_alikeOf_0 0 rfl rfl)
theorem dX7_alikeOf_1 : decode cX7_alikeOf 1 = .ok (.aload_n 0, 1) := dec_42 (gB drcX7_alikeOf_0 1 rfl rfl)
theorem dX7_alikeOf_2 : decode cX7_alikeOf 2 = .ok (.arraylength, 1) := dec_190 (gB drcX7_alikeOf_0 2 rfl rfl)
theorem dX7_alikeOf_3 : decode cX7_alikeOf 3 = .ok (.aload_n 0, 1) := dec_42 (gB drcX7_alikeOf_0 3 rfl rfl)
theorem dX7_alikeOf_4 : decode cX7_alikeOf 4 = .ok (.arraylength, 1) := dec_190 (gB drcX7_alikeOf_0 4 rfl rfl)
theorem dX7_alikeOf_5 : decode cX7_alikeOf 5 = .ok (.aload_n 1, 1) := dec_43 (gB drcX7_alikeOf_0 5 rfl rfl)
theorem dX7_alikeOf_6 : decode cX7_alikeOf 6 = .ok (.invokestatic 67, 3) := e_184 (x := 0) (y := 67) drcX7_alikeOf_0 6 rfl rfl
theorem dX7_alikeOf_9 : decode cX7_alikeOf 9 = .ok (.astore_n 2, 1) := dec_77 (gB drcX7_alikeOf_0 9 rfl rfl)
theorem dX7_alikeOf_10 : decode cX7_alikeOf 10 = .ok (.aload_n 1, 1) := dec_43 (gB drcX7_alikeOf_0 10 rfl rfl)
theorem dX7_alikeOf_11 : decode cX7_alikeOf 11 = .ok (.aload_n 1, 1) := dec_43 (gB drcX7_alikeOf_0 11 rfl rfl)
theorem dX7_alikeOf_12 : decode cX7_alikeOf 12 = .ok (.arraylength, 1) := dec_190 (gB drcX7_alikeOf_0 12 rfl rfl)
theorem dX7_alikeOf_13 : decode cX7_alikeOf 13 = .ok (.aload_n 1, 1) := dec_43 (gB drcX7_alikeOf_0 13 rfl rfl)
theorem dX7_alikeOf_14 : decode cX7_alikeOf 14 = .ok (.arraylength, 1) := dec_190 (gB drcX7_alikeOf_0 14 rfl rfl)
theorem dX7_alikeOf_15 : decode cX7_alikeOf 15 = .ok (.aload_n 0, 1) := dec_42 (gB drcX7_alikeOf_0 15 rfl rfl)
theorem dX7_alikeOf_16 : decode cX7_alikeOf 16 = .ok (.invokestatic 67, 3) := e_184 (x := 0) (y := 67) drcX7_alikeOf_0 16 rfl rfl
theorem dX7_alikeOf_19 : decode cX7_alikeOf 19 = .ok (.astore_n 3, 1) := dec_78 (gB drcX7_alikeOf_0 19 rfl rfl)
theorem dX7_alikeOf_20 : decode cX7_alikeOf 20 = .ok (.iconst 0, 1) := dec_3 (gB drcX7_alikeOf_0 20 rfl rfl)
theorem dX7_alikeOf_21 : decode cX7_alikeOf 21 = .ok (.istore 4, 2) := e_54 (x := 4) drcX7_alikeOf_0 21 rfl rfl
theorem dX7_alikeOf_23 : decode cX7_alikeOf 23 = .ok (.aload_n 2, 1) := dec_44 (gB drcX7_alikeOf_0 23 rfl rfl)
theorem dX7_alikeOf_24 : decode cX7_alikeOf 24 = .ok (.iload 4, 2) := e_21 (x := 4) drcX7_alikeOf_0 24 rfl rfl
theorem dX7_alikeOf_26 : decode cX7_alikeOf 26 = .ok (.iaload, 1) := dec_46 (gB drcX7_alikeOf_0 26 rfl rfl)
theorem dX7_alikeOf_27 : decode cX7_alikeOf 27 = .ok (.aload_n 3, 1) := dec_45 (gB drcX7_alikeOf_0 27 rfl rfl)
theorem dX7_alikeOf_28 : decode cX7_alikeOf 28 = .ok (.iload 4, 2) := e_21 (x := 4) drcX7_alikeOf_0 28 rfl rfl
theorem dX7_alikeOf_30 : decode cX7_alikeOf 30 = .ok (.iaload, 1) := dec_46 (gB drcX7_alikeOf_0 30 rfl rfl)
theorem dX7_alikeOf_31 : decode cX7_alikeOf 31 = .ok (.if_icmp .ne 9, 3) := e_160 (x := 0) (y := 9) drcX7_alikeOf_0 31 rfl rfl
theorem dX7_alikeOf_34 : decode cX7_alikeOf 34 = .ok (.iinc 4 1, 3) := e_132 (x := 4) (y := 1) drcX7_alikeOf_0 34 rfl rfl
theorem dX7_alikeOf_37 : decode cX7_alikeOf 37 = .ok (.goto (-14), 3) := e_167 (x := 255) (y := 242) drcX7_alikeOf_0 37 rfl rfl
theorem dX7_alikeOf_40 : decode cX7_alikeOf 40 = .ok (.iload 4, 2) := e_21 (x := 4) drcX7_alikeOf_0 40 rfl rfl
theorem dX7_alikeOf_42 : decode cX7_alikeOf 42 = .ok (.ireturn, 1) := dec_172 (gB drcX7_alikeOf_0 42 rfl rfl)
def lkcX7_alike_0 : List UInt8 := [0x2a, 0x1b, 0xb8, 0x00, 0x71, 0x04, 0xb6, 0x00, 0x33, 0x99, 0x00, 0x07, 0x03, 0xa7, 0x00, 0x12, 0x2a, 0x1b, 0x03, 0xb6, 0x00, 0xc0, 0x2a, 0x1b, 0x04, 0xb6, 0x00, 0xc0, 0xb8, 0x00, 0xc8, 0xac]
def tkcX7_alike_0 : List UInt8 := lkcX7_alike_0 ++ []
theorem drcX7_alike_0 : (cX7_alike).data.toList.drop 0 = lkcX7_alike_0 ++ [] := by decide +kernel
theorem dX7_alike_0 : decode cX7_alike 0 = .ok (.aload_n 0, 1) := dec_42 (gB drcX7_alike_0 0 rfl rfl)
theorem dX7_alike_1 : decode cX7_alike 1 = .ok (.iload_n 1, 1) := dec_27 (gB drcX7_alike_0 1 rfl rfl)
theorem dX7_alike_2 : decode cX7_alike 2 = .ok (.invokestatic 113, 3) := e_184 (x := 0) (y := 113) drcX7_alike_0 2 rfl rfl
theorem dX7_alike_5 : decode cX7_alike 5 = .ok (.iconst 1, 1) := dec_4 (gB drcX7_alike_0 5 rfl rfl)
theorem dX7_alike_6 : decode cX7_alike 6 = .ok (.invokevirtual 51, 3) := e_182 (x := 0) (y := 51) drcX7_alike_0 6 rfl rfl
theorem dX7_alike_9 : decode cX7_alike 9 = .ok (.ifCond .eq 7, 3) := e_153 (x := 0) (y := 7) drcX7_alike_0 9 rfl rfl
theorem dX7_alike_12 : decode cX7_alike 12 = .ok (.iconst 0, 1) := dec_3 (gB drcX7_alike_0 12 rfl rfl)
theorem dX7_alike_13 : decode cX7_alike 13 = .ok (.goto 18, 3) := e_167 (x := 0) (y := 18) drcX7_alike_0 13 rfl rfl
theorem dX7_alike_16 : decode cX7_alike 16 = .ok (.aload_n 0, 1) := dec_42 (gB drcX7_alike_0 16 rfl rfl)
theorem dX7_alike_17 : decode cX7_alike 17 = .ok (.iload_n 1, 1) := dec_27 (gB drcX7_alike_0 17 rfl rfl)
theorem dX7_alike_18 : decode cX7_alike 18 = .ok (.iconst 0, 1) := dec_3 (gB drcX7_alike_0 18 rfl rfl)
theorem dX7_alike_19 : decode cX7_alike 19 = .ok (.invokevirtual 192, 3) := e_182 (x := 0) (y := 192) drcX7_alike_0 19 rfl rfl
theorem dX7_alike_22 : decode cX7_alike 22 = .ok (.aload_n 0, 1) := dec_42 (gB drcX7_alike_0 22 rfl rfl)
theorem dX7_alike_23 : decode cX7_alike 23 = .ok (.iload_n 1, 1) := dec_27 (gB drcX7_alike_0 23 rfl rfl)
theorem dX7_alike_24 : decode cX7_alike 24 = .ok (.iconst 1, 1) := dec_4 (gB drcX7_alike_0 24 rfl rfl)
theorem dX7_alike_25 : decode cX7_alike 25 = .ok (.invokevirtual 192, 3) := e_182 (x := 0) (y := 192) drcX7_alike_0 25 rfl rfl
theorem dX7_alike_28 : decode cX7_alike 28 = .ok (.invokestatic 200, 3) := e_184 (x := 0) (y := 200) drcX7_alike_0 28 rfl rfl
theorem dX7_alike_31 : decode cX7_alike 31 = .ok (.ireturn, 1) := dec_172 (gB drcX7_alike_0 31 rfl rfl)
def lkcX7_told_0 : List UInt8 := [0x1b, 0x9a, 0x00, 0x0a, 0x2a, 0xb4, 0x00, 0x2d, 0xa7, 0x00, 0x1f, 0x1b, 0x04, 0xa0, 0x00, 0x0a, 0x2a, 0xb4, 0x00, 0x88, 0xa7, 0x00, 0x13, 0x1b, 0x05, 0xa0, 0x00, 0x0a, 0x2a, 0xb4, 0x00, 0x30, 0xa7, 0x00, 0x07, 0x2a, 0xb4, 0x00, 0xcb, 0xac]
def tkcX7_told_0 : List UInt8 := lkcX7_told_0 ++ []
theorem drcX7_told_0 : (cX7_told).data.toList.drop 0 = lkcX7_told_0 ++ [] := by decide +kernel
theorem dX7_told_0 : decode cX7_told 0 = .ok (.iload_n 1, 1) := dec_27 (gB drcX7_told_0 0 rfl rfl)
theorem dX7_told_1 : decode cX7_told 1 = .ok (.ifCond .ne 10, 3) := e_154 (x := 0) (y := 10) drcX7_told_0 1 rfl rfl
theorem dX7_told_4 : decode cX7_told 4 = .ok (.aload_n 0, 1) := dec_42 (gB drcX7_told_0 4 rfl rfl)
theorem dX7_told_5 : decode cX7_told 5 = .ok (.getfield 45, 3) := e_180 (x := 0) (y := 45) drcX7_told_0 5 rfl rfl
theorem dX7_told_8 : decode cX7_told 8 = .ok (.goto 31, 3) := e_167 (x := 0) (y := 31) drcX7_told_0 8 rfl rfl
theorem dX7_told_11 : decode cX7_told 11 = .ok (.iload_n 1, 1) := dec_27 (gB drcX7_told_0 11 rfl rfl)
theorem dX7_told_12 : decode cX7_told 12 = .ok (.iconst 1, 1) := dec_4 (gB drcX7_told_0 12 rfl rfl)
theorem dX7_told_13 : decode cX7_told 13 = .ok (.if_icmp .ne 10, 3) := e_160 (x := 0) (y := 10) drcX7_told_0 13 rfl rfl
theorem dX7_told_16 : decode cX7_told 16 = .ok (.aload_n 0, 1) := dec_42 (gB drcX7_told_0 16 rfl rfl)
theorem dX7_told_17 : decode cX7_told 17 = .ok (.getfield 136, 3) := e_180 (x := 0) (y := 136) drcX7_told_0 17 rfl rfl
theorem dX7_told_20 : decode cX7_told 20 = .ok (.goto 19, 3) := e_167 (x := 0) (y := 19) drcX7_told_0 20 rfl rfl
theorem dX7_told_23 : decode cX7_told 23 = .ok (.iload_n 1, 1) := dec_27 (gB drcX7_told_0 23 rfl rfl)
theorem dX7_told_24 : decode cX7_told 24 = .ok (.iconst 2, 1) := dec_5 (gB drcX7_told_0 24 rfl rfl)
theorem dX7_told_25 : decode cX7_told 25 = .ok (.if_icmp .ne 10, 3) := e_160 (x := 0) (y := 10) drcX7_told_0 25 rfl rfl
theorem dX7_told_28 : decode cX7_told 28 = .ok (.aload_n 0, 1) := dec_42 (gB drcX7_told_0 28 rfl rfl)
theorem dX7_told_29 : decode cX7_told 29 = .ok (.getfield 48, 3) := e_180 (x := 0) (y := 48) drcX7_told_0 29 rfl rfl
theorem dX7_told_32 : decode cX7_told 32 = .ok (.goto 7, 3) := e_167 (x := 0) (y := 7) drcX7_told_0 32 rfl rfl
theorem dX7_told_35 : decode cX7_told 35 = .ok (.aload_n 0, 1) := dec_42 (gB drcX7_told_0 35 rfl rfl)
theorem dX7_told_36 : decode cX7_told 36 = .ok (.getfield 203, 3) := e_180 (x := 0) (y := 203) drcX7_told_0 36 rfl rfl
theorem dX7_told_39 : decode cX7_told 39 = .ok (.ireturn, 1) := dec_172 (gB drcX7_told_0 39 rfl rfl)
def lkcX7_house_0 : List UInt8 := [0x2a, 0x1b, 0x03, 0x06, 0xb8, 0x00, 0x1d, 0x9a, 0x00, 0x07, 0x04, 0xa7, 0x00, 0x04, 0x03, 0x04, 0xb6, 0x00, 0x33, 0x99, 0x00, 0x07, 0x03, 0xa7, 0x00, 0x08, 0x2a, 0x1b, 0xb6, 0x00, 0xce, 0xac]
def tkcX7_house_0 : List UInt8 := lkcX7_house_0 ++ []
theorem drcX7_house_0 : (cX7_house).data.toList.drop 0 = lkcX7_house_0 ++ [] := by decide +kernel
theorem dX7_house_0 : decode cX7_house 0 = .ok (.aload_n 0, 1) := dec_42 (gB drcX7_house_0 0 rfl rfl)
theorem dX7_house_1 : decode cX7_house 1 = .ok (.iload_n 1, 1) := dec_27 (gB drcX7_house_0 1 rfl rfl)
theorem dX7_house_2 : decode cX7_house 2 = .ok (.iconst 0, 1) := dec_3 (gB drcX7_house_0 2 rfl rfl)
theorem dX7_house_3 : decode cX7_house 3 = .ok (.iconst 3, 1) := dec_6 (gB drcX7_house_0 3 rfl rfl)
theorem dX7_house_4 : decode cX7_house 4 = .ok (.invokestatic 29, 3) := e_184 (x := 0) (y := 29) drcX7_house_0 4 rfl rfl
theorem dX7_house_7 : decode cX7_house 7 = .ok (.ifCond .ne 7, 3) := e_154 (x := 0) (y := 7) drcX7_house_0 7 rfl rfl
theorem dX7_house_10 : decode cX7_house 10 = .ok (.iconst 1, 1) := dec_4 (gB drcX7_house_0 10 rfl rfl)
theorem dX7_house_11 : decode cX7_house 11 = .ok (.goto 4, 3) := e_167 (x := 0) (y := 4) drcX7_house_0 11 rfl rfl
theorem dX7_house_14 : decode cX7_house 14 = .ok (.iconst 0, 1) := dec_3 (gB drcX7_house_0 14 rfl rfl)
theorem dX7_house_15 : decode cX7_house 15 = .ok (.iconst 1, 1) := dec_4 (gB drcX7_house_0 15 rfl rfl)
theorem dX7_house_16 : decode cX7_house 16 = .ok (.invokevirtual 51, 3) := e_182 (x := 0) (y := 51) drcX7_house_0 16 rfl rfl
theorem dX7_house_19 : decode cX7_house 19 = .ok (.ifCond .eq 7, 3) := e_153 (x := 0) (y := 7) drcX7_house_0 19 rfl rfl
theorem dX7_house_22 : decode cX7_house 22 = .ok (.iconst 0, 1) := dec_3 (gB drcX7_house_0 22 rfl rfl)
theorem dX7_house_23 : decode cX7_house 23 = .ok (.goto 8, 3) := e_167 (x := 0) (y := 8) drcX7_house_0 23 rfl rfl
theorem dX7_house_26 : decode cX7_house 26 = .ok (.aload_n 0, 1) := dec_42 (gB drcX7_house_0 26 rfl rfl)
theorem dX7_house_27 : decode cX7_house 27 = .ok (.iload_n 1, 1) := dec_27 (gB drcX7_house_0 27 rfl rfl)
theorem dX7_house_28 : decode cX7_house 28 = .ok (.invokevirtual 206, 3) := e_182 (x := 0) (y := 206) drcX7_house_0 28 rfl rfl
theorem dX7_house_31 : decode cX7_house 31 = .ok (.ireturn, 1) := dec_172 (gB drcX7_house_0 31 rfl rfl)
def lkcX7_knock_0 : List UInt8 := [0x2a, 0x03, 0xb5, 0x00, 0x15, 0x2a, 0x59, 0xb4, 0x00, 0xcb, 0x04, 0x60, 0xb5, 0x00, 0xcb, 0x2a, 0xb4, 0x00, 0xcb, 0xac]
def tkcX7_knock_0 : List UInt8 := lkcX7_knock_0 ++ []
theorem drcX7_knock_0 : (cX7_knock).data.toList.drop 0 = lkcX7_knock_0 ++ [] := by decide +kernel
theorem dX7_knock_0 : decode cX7_knock 0 = .ok (.aload_n 0, 1) := dec_42 (gB drcX7_knock_0 0 rfl rfl)
theorem dX7_knock_1 : decode cX7_knock 1 = .ok (.iconst 0, 1) := dec_3 (gB drcX7_knock_0 1 rfl rfl)
theorem dX7_knock_2 : decode cX7_knock 2 = .ok (.putfield 21, 3) := e_181 (x := 0) (y := 21) drcX7_knock_0 2 rfl rfl
theorem dX7_knock_5 : decode cX7_knock 5 = .ok (.aload_n 0, 1) := dec_42 (gB drcX7_knock_0 5 rfl rfl)
theorem dX7_knock_6 : decode cX7_knock 6 = .ok (.dup, 1) := dec_89 (gB drcX7_knock_0 6 rfl rfl)
theorem dX7_knock_7 : decode cX7_knock 7 = .ok (.getfield 203, 3) := e_180 (x := 0) (y := 203) drcX7_knock_0 7 rfl rfl
theorem dX7_knock_10 : decode cX7_knock 10 = .ok (.iconst 1, 1) := dec_4 (gB drcX7_knock_0 10 rfl rfl)
theorem dX7_knock_11 : decode cX7_knock 11 = .ok (.iadd, 1) := dec_96 (gB drcX7_knock_0 11 rfl rfl)
theorem dX7_knock_12 : decode cX7_knock 12 = .ok (.putfield 203, 3) := e_181 (x := 0) (y := 203) drcX7_knock_0 12 rfl rfl
theorem dX7_knock_15 : decode cX7_knock 15 = .ok (.aload_n 0, 1) := dec_42 (gB drcX7_knock_0 15 rfl rfl)
theorem dX7_knock_16 : decode cX7_knock 16 = .ok (.getfield 203, 3) := e_180 (x := 0) (y := 203) drcX7_knock_0 16 rfl rfl
theorem dX7_knock_19 : decode cX7_knock 19 = .ok (.ireturn, 1) := dec_172 (gB drcX7_knock_0 19 rfl rfl)
def lkcX7_isWhole_0 : List UInt8 := [0x2a, 0xb4, 0x00, 0x09, 0x4c, 0x2b, 0xbe, 0x3d, 0x03, 0x3e, 0x1d, 0x1c, 0xa2, 0x00, 0x28, 0x2b, 0x1d, 0x32, 0x3a, 0x04, 0x19, 0x04, 0xbe, 0x10, 0x40, 0xa3, 0x00, 0x13, 0x19, 0x04, 0xb8, 0x00, 0x5d, 0xb8, 0x00, 0x5d, 0x19, 0x04, 0xb8, 0x00, 0x59, 0x9a, 0x00, 0x05, 0x03, 0xac, 0x84, 0x03, 0x01, 0xa7, 0xff, 0xd9, 0x03, 0x3c, 0x1b, 0x05, 0xa2, 0x00, 0x56, 0x2a, 0x1b, 0x03, 0xb6, 0x00]
def lkcX7_isWhole_1 : List UInt8 := [0xc0, 0x4d, 0x2a, 0x1b, 0x04, 0xb6, 0x00, 0xc0, 0x4e, 0x2c, 0x2a, 0x1b, 0xb6, 0x00, 0x78, 0xb8, 0x00, 0x59, 0x99, 0x00, 0x0f, 0x2c, 0x2a, 0x1b, 0xb6, 0x00, 0x7b, 0xb8, 0x00, 0x59, 0x9a, 0x00, 0x05, 0x03, 0xac, 0x2c, 0x2d, 0xb8, 0x00, 0xc4, 0x04, 0x2a, 0xb4, 0x00, 0x12, 0x1b, 0x2e, 0x05, 0x70, 0x05, 0x68, 0x64, 0xa0, 0x00, 0x12, 0x2c, 0x2d, 0xb8, 0x00, 0xc8, 0x2c, 0xbe, 0x2d, 0xbe]
def lkcX7_isWhole_2 : List UInt8 := [0x60, 0x05, 0x64, 0x9f, 0x00, 0x05, 0x03, 0xac, 0x84, 0x01, 0x01, 0xa7, 0xff, 0xab, 0x04, 0xac]
def tkcX7_isWhole_2 : List UInt8 := lkcX7_isWhole_2 ++ []
def tkcX7_isWhole_1 : List UInt8 := lkcX7_isWhole_1 ++ tkcX7_isWhole_2
def tkcX7_isWhole_0 : List UInt8 := lkcX7_isWhole_0 ++ tkcX7_isWhole_1
theorem drcX7_isWhole_0 : (cX7_isWhole).data.toList.drop 0 = lkcX7_isWhole_0 ++ tkcX7_isWhole_1 := by decide +kernel
theorem drcX7_isWhole_1 : (cX7_isWhole).data.toList.drop 64 = lkcX7_isWhole_1 ++ tkcX7_isWhole_2 := dr_step drcX7_isWhole_0 rfl
theorem drcX7_isWhole_2 : (cX7_isWhole).data.toList.drop 128 = lkcX7_isWhole_2 ++ [] := dr_step drcX7_isWhole_1 rfl
theorem dX7_isWhole_0 : decode cX7_isWhole 0 = .ok (.aload_n 0, 1) := dec_42 (gB drcX7_isWhole_0 0 rfl rfl)
theorem dX7_isWhole_1 : decode cX7_isWhole 1 = .ok (.getfield 9, 3) := e_180 (x := 0) (y := 9) drcX7_isWhole_0 1 rfl rfl
theorem dX7_isWhole_4 : decode cX7_isWhole 4 = .ok (.astore_n 1, 1) := dec_76 (gB drcX7_isWhole_0 4 rfl rfl)
theorem dX7_isWhole_5 : decode cX7_isWhole 5 = .ok (.aload_n 1, 1) := dec_43 (gB drcX7_isWhole_0 5 rfl rfl)
theorem dX7_isWhole_6 : decode cX7_isWhole 6 = .ok (.arraylength, 1) := dec_190 (gB drcX7_isWhole_0 6 rfl rfl)
theorem dX7_isWhole_7 : decode cX7_isWhole 7 = .ok (.istore_n 2, 1) := dec_61 (gB drcX7_isWhole_0 7 rfl rfl)
theorem dX7_isWhole_8 : decode cX7_isWhole 8 = .ok (.iconst 0, 1) := dec_3 (gB drcX7_isWhole_0 8 rfl rfl)
theorem dX7_isWhole_9 : decode cX7_isWhole 9 = .ok (.istore_n 3, 1) := dec_62 (gB drcX7_isWhole_0 9 rfl rfl)
theorem dX7_isWhole_10 : decode cX7_isWhole 10 = .ok (.iload_n 3, 1) := dec_29 (gB drcX7_isWhole_0 10 rfl rfl)
theorem dX7_isWhole_11 : decode cX7_isWhole 11 = .ok (.iload_n 2, 1) := dec_28 (gB drcX7_isWhole_0 11 rfl rfl)
theorem dX7_isWhole_12 : decode cX7_isWhole 12 = .ok (.if_icmp .ge 40, 3) := e_162 (x := 0) (y := 40) drcX7_isWhole_0 12 rfl rfl
theorem dX7_isWhole_15 : decode cX7_isWhole 15 = .ok (.aload_n 1, 1) := dec_43 (gB drcX7_isWhole_0 15 rfl rfl)
theorem dX7_isWhole_16 : decode cX7_isWhole 16 = .ok (.iload_n 3, 1) := dec_29 (gB drcX7_isWhole_0 16 rfl rfl)
theorem dX7_isWhole_17 : decode cX7_isWhole 17 = .ok (.aaload, 1) := dec_50 (gB drcX7_isWhole_0 17 rfl rfl)
theorem dX7_isWhole_18 : decode cX7_isWhole 18 = .ok (.astore 4, 2) := e_58 (x := 4) drcX7_isWhole_0 18 rfl rfl
theorem dX7_isWhole_20 : decode cX7_isWhole 20 = .ok (.aload 4, 2) := e_25 (x := 4) drcX7_isWhole_0 20 rfl rfl
theorem dX7_isWhole_22 : decode cX7_isWhole 22 = .ok (.arraylength, 1) := dec_190 (gB drcX7_isWhole_0 22 rfl rfl)
theorem dX7_isWhole_23 : decode cX7_isWhole 23 = .ok (.bipush 64, 2) := e_16 (x := 64) drcX7_isWhole_0 23 rfl rfl
theorem dX7_isWhole_25 : decode cX7_isWhole 25 = .ok (.if_icmp .gt 19, 3) := e_163 (x := 0) (y := 19) drcX7_isWhole_0 25 rfl rfl
theorem dX7_isWhole_28 : decode cX7_isWhole 28 = .ok (.aload 4, 2) := e_25 (x := 4) drcX7_isWhole_0 28 rfl rfl
theorem dX7_isWhole_30 : decode cX7_isWhole 30 = .ok (.invokestatic 93, 3) := e_184 (x := 0) (y := 93) drcX7_isWhole_0 30 rfl rfl
theorem dX7_isWhole_33 : decode cX7_isWhole 33 = .ok (.invokestatic 93, 3) := e_184 (x := 0) (y := 93) drcX7_isWhole_0 33 rfl rfl
theorem dX7_isWhole_36 : decode cX7_isWhole 36 = .ok (.aload 4, 2) := e_25 (x := 4) drcX7_isWhole_0 36 rfl rfl
theorem dX7_isWhole_38 : decode cX7_isWhole 38 = .ok (.invokestatic 89, 3) := e_184 (x := 0) (y := 89) drcX7_isWhole_0 38 rfl rfl
theorem dX7_isWhole_41 : decode cX7_isWhole 41 = .ok (.ifCond .ne 5, 3) := e_154 (x := 0) (y := 5) drcX7_isWhole_0 41 rfl rfl
theorem dX7_isWhole_44 : decode cX7_isWhole 44 = .ok (.iconst 0, 1) := dec_3 (gB drcX7_isWhole_0 44 rfl rfl)
theorem dX7_isWhole_45 : decode cX7_isWhole 45 = .ok (.ireturn, 1) := dec_172 (gB drcX7_isWhole_0 45 rfl rfl)
theorem dX7_isWhole_46 : decode cX7_isWhole 46 = .ok (.iinc 3 1, 3) := e_132 (x := 3) (y := 1) drcX7_isWhole_0 46 rfl rfl
theorem dX7_isWhole_49 : decode cX7_isWhole 49 = .ok (.goto (-39), 3) := e_167 (x := 255) (y := 217) drcX7_isWhole_0 49 rfl rfl
theorem dX7_isWhole_52 : decode cX7_isWhole 52 = .ok (.iconst 0, 1) := dec_3 (gB drcX7_isWhole_0 52 rfl rfl)
theorem dX7_isWhole_53 : decode cX7_isWhole 53 = .ok (.istore_n 1, 1) := dec_60 (gB drcX7_isWhole_0 53 rfl rfl)
theorem dX7_isWhole_54 : decode cX7_isWhole 54 = .ok (.iload_n 1, 1) := dec_27 (gB drcX7_isWhole_0 54 rfl rfl)
theorem dX7_isWhole_55 : decode cX7_isWhole 55 = .ok (.iconst 2, 1) := dec_5 (gB drcX7_isWhole_0 55 rfl rfl)
theorem dX7_isWhole_56 : decode cX7_isWhole 56 = .ok (.if_icmp .ge 86, 3) := e_162 (x := 0) (y := 86) drcX7_isWhole_0 56 rfl rfl
theorem dX7_isWhole_59 : decode cX7_isWhole 59 = .ok (.aload_n 0, 1) := dec_42 (gB drcX7_isWhole_0 59 rfl rfl)
theorem dX7_isWhole_60 : decode cX7_isWhole 60 = .ok (.iload_n 1, 1) := dec_27 (gB drcX7_isWhole_0 60 rfl rfl)
theorem dX7_isWhole_61 : decode cX7_isWhole 61 = .ok (.iconst 0, 1) := dec_3 (gB drcX7_isWhole_0 61 rfl rfl)
theorem dX7_isWhole_62 : decode cX7_isWhole 62 = .ok (.invokevirtual 192, 3) := dec_182 (a := 0) (b := 192) (gB drcX7_isWhole_0 62 rfl rfl) (gB drcX7_isWhole_0 63 rfl rfl) (gB drcX7_isWhole_1 0 rfl rfl)
theorem dX7_isWhole_65 : decode cX7_isWhole 65 = .ok (.astore_n 2, 1) := dec_77 (gB drcX7_isWhole_1 1 rfl rfl)
theorem dX7_isWhole_66 : decode cX7_isWhole 66 = .ok (.aload_n 0, 1) := dec_42 (gB drcX7_isWhole_1 2 rfl rfl)
theorem dX7_isWhole_67 : decode cX7_isWhole 67 = .ok (.iload_n 1, 1) := dec_27 (gB drcX7_isWhole_1 3 rfl rfl)
theorem dX7_isWhole_68 : decode cX7_isWhole 68 = .ok (.iconst 1, 1) := dec_4 (gB drcX7_isWhole_1 4 rfl rfl)
theorem dX7_isWhole_69 : decode cX7_isWhole 69 = .ok (.invokevirtual 192, 3) := e_182 (x := 0) (y := 192) drcX7_isWhole_1 5 rfl rfl
theorem dX7_isWhole_72 : decode cX7_isWhole 72 = .ok (.astore_n 3, 1) := dec_78 (gB drcX7_isWhole_1 8 rfl rfl)
theorem dX7_isWhole_73 : decode cX7_isWhole 73 = .ok (.aload_n 2, 1) := dec_44 (gB drcX7_isWhole_1 9 rfl rfl)
theorem dX7_isWhole_74 : decode cX7_isWhole 74 = .ok (.aload_n 0, 1) := dec_42 (gB drcX7_isWhole_1 10 rfl rfl)
theorem dX7_isWhole_75 : decode cX7_isWhole 75 = .ok (.iload_n 1, 1) := dec_27 (gB drcX7_isWhole_1 11 rfl rfl)
theorem dX7_isWhole_76 : decode cX7_isWhole 76 = .ok (.invokevirtual 120, 3) := e_182 (x := 0) (y := 120) drcX7_isWhole_1 12 rfl rfl
theorem dX7_isWhole_79 : decode cX7_isWhole 79 = .ok (.invokestatic 89, 3) := e_184 (x := 0) (y := 89) drcX7_isWhole_1 15 rfl rfl
theorem dX7_isWhole_82 : decode cX7_isWhole 82 = .ok (.ifCond .eq 15, 3) := e_153 (x := 0) (y := 15) drcX7_isWhole_1 18 rfl rfl
theorem dX7_isWhole_85 : decode cX7_isWhole 85 = .ok (.aload_n 2, 1) := dec_44 (gB drcX7_isWhole_1 21 rfl rfl)
theorem dX7_isWhole_86 : decode cX7_isWhole 86 = .ok (.aload_n 0, 1) := dec_42 (gB drcX7_isWhole_1 22 rfl rfl)
theorem dX7_isWhole_87 : decode cX7_isWhole 87 = .ok (.iload_n 1, 1) := dec_27 (gB drcX7_isWhole_1 23 rfl rfl)
theorem dX7_isWhole_88 : decode cX7_isWhole 88 = .ok (.invokevirtual 123, 3) := e_182 (x := 0) (y := 123) drcX7_isWhole_1 24 rfl rfl
theorem dX7_isWhole_91 : decode cX7_isWhole 91 = .ok (.invokestatic 89, 3) := e_184 (x := 0) (y := 89) drcX7_isWhole_1 27 rfl rfl
theorem dX7_isWhole_94 : decode cX7_isWhole 94 = .ok (.ifCond .ne 5, 3) := e_154 (x := 0) (y := 5) drcX7_isWhole_1 30 rfl rfl
theorem dX7_isWhole_97 : decode cX7_isWhole 97 = .ok (.iconst 0, 1) := dec_3 (gB drcX7_isWhole_1 33 rfl rfl)
theorem dX7_isWhole_98 : decode cX7_isWhole 98 = .ok (.ireturn, 1) := dec_172 (gB drcX7_isWhole_1 34 rfl rfl)
theorem dX7_isWhole_99 : decode cX7_isWhole 99 = .ok (.aload_n 2, 1) := dec_44 (gB drcX7_isWhole_1 35 rfl rfl)
theorem dX7_isWhole_100 : decode cX7_isWhole 100 = .ok (.aload_n 3, 1) := dec_45 (gB drcX7_isWhole_1 36 rfl rfl)
theorem dX7_isWhole_101 : decode cX7_isWhole 101 = .ok (.invokestatic 196, 3) := e_184 (x := 0) (y := 196) drcX7_isWhole_1 37 rfl rfl
theorem dX7_isWhole_104 : decode cX7_isWhole 104 = .ok (.iconst 1, 1) := dec_4 (gB drcX7_isWhole_1 40 rfl rfl)
theorem dX7_isWhole_105 : decode cX7_isWhole 105 = .ok (.aload_n 0, 1) := dec_42 (gB drcX7_isWhole_1 41 rfl rfl)
theorem dX7_isWhole_106 : decode cX7_isWhole 106 = .ok (.getfield 18, 3) := e_180 (x := 0) (y := 18) drcX7_isWhole_1 42 rfl rfl
theorem dX7_isWhole_109 : decode cX7_isWhole 109 = .ok (.iload_n 1, 1) := dec_27 (gB drcX7_isWhole_1 45 rfl rfl)
theorem dX7_isWhole_110 : decode cX7_isWhole 110 = .ok (.iaload, 1) := dec_46 (gB drcX7_isWhole_1 46 rfl rfl)
theorem dX7_isWhole_111 : decode cX7_isWhole 111 = .ok (.iconst 2, 1) := dec_5 (gB drcX7_isWhole_1 47 rfl rfl)
theorem dX7_isWhole_112 : decode cX7_isWhole 112 = .ok (.irem, 1) := dec_112 (gB drcX7_isWhole_1 48 rfl rfl)
theorem dX7_isWhole_113 : decode cX7_isWhole 113 = .ok (.iconst 2, 1) := dec_5 (gB drcX7_isWhole_1 49 rfl rfl)
theorem dX7_isWhole_114 : decode cX7_isWhole 114 = .ok (.imul, 1) := dec_104 (gB drcX7_isWhole_1 50 rfl rfl)
theorem dX7_isWhole_115 : decode cX7_isWhole 115 = .ok (.isub, 1) := dec_100 (gB drcX7_isWhole_1 51 rfl rfl)
theorem dX7_isWhole_116 : decode cX7_isWhole 116 = .ok (.if_icmp .ne 18, 3) := e_160 (x := 0) (y := 18) drcX7_isWhole_1 52 rfl rfl
theorem dX7_isWhole_119 : decode cX7_isWhole 119 = .ok (.aload_n 2, 1) := dec_44 (gB drcX7_isWhole_1 55 rfl rfl)
theorem dX7_isWhole_120 : decode cX7_isWhole 120 = .ok (.aload_n 3, 1) := dec_45 (gB drcX7_isWhole_1 56 rfl rfl)
theorem dX7_isWhole_121 : decode cX7_isWhole 121 = .ok (.invokestatic 200, 3) := e_184 (x := 0) (y := 200) drcX7_isWhole_1 57 rfl rfl
theorem dX7_isWhole_124 : decode cX7_isWhole 124 = .ok (.aload_n 2, 1) := dec_44 (gB drcX7_isWhole_1 60 rfl rfl)
theorem dX7_isWhole_125 : decode cX7_isWhole 125 = .ok (.arraylength, 1) := dec_190 (gB drcX7_isWhole_1 61 rfl rfl)
theorem dX7_isWhole_126 : decode cX7_isWhole 126 = .ok (.aload_n 3, 1) := dec_45 (gB drcX7_isWhole_1 62 rfl rfl)
theorem dX7_isWhole_127 : decode cX7_isWhole 127 = .ok (.arraylength, 1) := dec_190 (gB drcX7_isWhole_1 63 rfl rfl)
theorem dX7_isWhole_128 : decode cX7_isWhole 128 = .ok (.iadd, 1) := dec_96 (gB drcX7_isWhole_2 0 rfl rfl)
theorem dX7_isWhole_129 : decode cX7_isWhole 129 = .ok (.iconst 2, 1) := dec_5 (gB drcX7_isWhole_2 1 rfl rfl)
theorem dX7_isWhole_130 : decode cX7_isWhole 130 = .ok (.isub, 1) := dec_100 (gB drcX7_isWhole_2 2 rfl rfl)
theorem dX7_isWhole_131 : decode cX7_isWhole 131 = .ok (.if_icmp .eq 5, 3) := e_159 (x := 0) (y := 5) drcX7_isWhole_2 3 rfl rfl
theorem dX7_isWhole_134 : decode cX7_isWhole 134 = .ok (.iconst 0, 1) := dec_3 (gB drcX7_isWhole_2 6 rfl rfl)
theorem dX7_isWhole_135 : decode cX7_isWhole 135 = .ok (.ireturn, 1) := dec_172 (gB drcX7_isWhole_2 7 rfl rfl)
theorem dX7_isWhole_136 : decode cX7_isWhole 136 = .ok (.iinc 1 1, 3) := e_132 (x := 1) (y := 1) drcX7_isWhole_2 8 rfl rfl
theorem dX7_isWhole_139 : decode cX7_isWhole 139 = .ok (.goto (-85), 3) := e_167 (x := 255) (y := 171) drcX7_isWhole_2 11 rfl rfl
theorem dX7_isWhole_142 : decode cX7_isWhole 142 = .ok (.iconst 1, 1) := dec_4 (gB drcX7_isWhole_2 14 rfl rfl)
theorem dX7_isWhole_143 : decode cX7_isWhole 143 = .ok (.ireturn, 1) := dec_172 (gB drcX7_isWhole_2 15 rfl rfl)
def lkcX7_isSound_0 : List UInt8 := [0x2a, 0x03, 0xb5, 0x00, 0x15, 0x2a, 0xb6, 0x00, 0xd2, 0xac]
def tkcX7_isSound_0 : List UInt8 := lkcX7_isSound_0 ++ []
theorem drcX7_isSound_0 : (cX7_isSound).data.toList.drop 0 = lkcX7_isSound_0 ++ [] := by decide +kernel
theorem dX7_isSound_0 : decode cX7_isSound 0 = .ok (.aload_n 0, 1) := dec_42 (gB drcX7_isSound_0 0 rfl rfl)
theorem dX7_isSound_1 : decode cX7_isSound 1 = .ok (.iconst 0, 1) := dec_3 (gB drcX7_isSound_0 1 rfl rfl)
theorem dX7_isSound_2 : decode cX7_isSound 2 = .ok (.putfield 21, 3) := e_181 (x := 0) (y := 21) drcX7_isSound_0 2 rfl rfl
theorem dX7_isSound_5 : decode cX7_isSound 5 = .ok (.aload_n 0, 1) := dec_42 (gB drcX7_isSound_0 5 rfl rfl)
theorem dX7_isSound_6 : decode cX7_isSound 6 = .ok (.invokevirtual 210, 3) := e_182 (x := 0) (y := 210) drcX7_isSound_0 6 rfl rfl
theorem dX7_isSound_9 : decode cX7_isSound 9 = .ok (.ireturn, 1) := dec_172 (gB drcX7_isSound_0 9 rfl rfl)
def lkcX7_add_0 : List UInt8 := [0x1e, 0x14, 0x00, 0xd6, 0x69, 0x20, 0x61, 0xad]
def tkcX7_add_0 : List UInt8 := lkcX7_add_0 ++ []
theorem drcX7_add_0 : (cX7_add).data.toList.drop 0 = lkcX7_add_0 ++ [] := by decide +kernel
theorem dX7_add_0 : decode cX7_add 0 = .ok (.lload_n 0, 1) := dec_30 (gB drcX7_add_0 0 rfl rfl)
theorem dX7_add_1 : decode cX7_add 1 = .ok (.ldc2_w 214, 3) := e_20 (x := 0) (y := 214) drcX7_add_0 1 rfl rfl
theorem dX7_add_4 : decode cX7_add 4 = .ok (.lmul, 1) := dec_105 (gB drcX7_add_0 4 rfl rfl)
theorem dX7_add_5 : decode cX7_add 5 = .ok (.lload_n 2, 1) := dec_32 (gB drcX7_add_0 5 rfl rfl)
theorem dX7_add_6 : decode cX7_add 6 = .ok (.ladd, 1) := dec_97 (gB drcX7_add_0 6 rfl rfl)
theorem dX7_add_7 : decode cX7_add 7 = .ok (.lreturn, 1) := dec_173 (gB drcX7_add_0 7 rfl rfl)
def lkcX7_added_0 : List UInt8 := [0x2a, 0x1d, 0x03, 0xb6, 0x00, 0xc0, 0x3a, 0x04, 0x2a, 0x1d, 0x04, 0xb6, 0x00, 0xc0, 0x3a, 0x05, 0x1f, 0x2a, 0xb4, 0x00, 0x12, 0x1d, 0x2e, 0x85, 0xb8, 0x00, 0xd8, 0x37, 0x06, 0x03, 0x36, 0x08, 0x15, 0x08, 0x2a, 0xb4, 0x00, 0x12, 0x1d, 0x2e, 0xa2, 0x00, 0x1a, 0x16, 0x06, 0x2a, 0xb4, 0x00, 0x0f, 0x1d, 0x32, 0x15, 0x08, 0x2e, 0x85, 0xb8, 0x00, 0xd8, 0x37, 0x06, 0x84, 0x08, 0x01, 0xa7]
def lkcX7_added_1 : List UInt8 := [0xff, 0xe1, 0x16, 0x06, 0x19, 0x04, 0xbe, 0x85, 0xb8, 0x00, 0xd8, 0x19, 0x05, 0xbe, 0x85, 0xb8, 0x00, 0xd8, 0x37, 0x06, 0x16, 0x06, 0x19, 0x04, 0xb8, 0x00, 0x29, 0x85, 0xb8, 0x00, 0xd8, 0x19, 0x05, 0xb8, 0x00, 0x29, 0x85, 0xb8, 0x00, 0xd8, 0x37, 0x06, 0x16, 0x06, 0x19, 0x04, 0x19, 0x05, 0xb8, 0x00, 0xc4, 0x85, 0xb8, 0x00, 0xd8, 0x19, 0x04, 0x19, 0x05, 0xb8, 0x00, 0xc8, 0x85, 0xb8]
def lkcX7_added_2 : List UInt8 := [0x00, 0xd8, 0xad]
def tkcX7_added_2 : List UInt8 := lkcX7_added_2 ++ []
def tkcX7_added_1 : List UInt8 := lkcX7_added_1 ++ tkcX7_added_2
def tkcX7_added_0 : List UInt8 := lkcX7_added_0 ++ tkcX7_added_1
theorem drcX7_added_0 : (cX7_added).data.toList.drop 0 = lkcX7_added_0 ++ tkcX7_added_1 := by decide +kernel
theorem drcX7_added_1 : (cX7_added).data.toList.drop 64 = lkcX7_added_1 ++ tkcX7_added_2 := dr_step drcX7_added_0 rfl
theorem drcX7_added_2 : (cX7_added).data.toList.drop 128 = lkcX7_added_2 ++ [] := dr_step drcX7_added_1 rfl
theorem dX7_added_0 : decode cX7_added 0 = .ok (.aload_n 0, 1) := dec_42 (gB drcX7_added_0 0 rfl rfl)
theorem dX7_added_1 : decode cX7_added 1 = .ok (.iload_n 3, 1) := dec_29 (gB drcX7_added_0 1 rfl rfl)
theorem dX7_added_2 : decode cX7_added 2 = .ok (.iconst 0, 1) := dec_3 (gB drcX7_added_0 2 rfl rfl)
theorem dX7_added_3 : decode cX7_added 3 = .ok (.invokevirtual 192, 3) := e_182 (x := 0) (y := 192) drcX7_added_0 3 rfl rfl
theorem dX7_added_6 : decode cX7_added 6 = .ok (.astore 4, 2) := e_58 (x := 4) drcX7_added_0 6 rfl rfl
theorem dX7_added_8 : decode cX7_added 8 = .ok (.aload_n 0, 1) := dec_42 (gB drcX7_added_0 8 rfl rfl)
theorem dX7_added_9 : decode cX7_added 9 = .ok (.iload_n 3, 1) := dec_29 (gB drcX7_added_0 9 rfl rfl)
theorem dX7_added_10 : decode cX7_added 10 = .ok (.iconst 1, 1) := dec_4 (gB drcX7_added_0 10 rfl rfl)
theorem dX7_added_11 : decode cX7_added 11 = .ok (.invokevirtual 192, 3) := e_182 (x := 0) (y := 192) drcX7_added_0 11 rfl rfl
theorem dX7_added_14 : decode cX7_added 14 = .ok (.astore 5, 2) := e_58 (x := 5) drcX7_added_0 14 rfl rfl
theorem dX7_added_16 : decode cX7_added 16 = .ok (.lload_n 1, 1) := dec_31 (gB drcX7_added_0 16 rfl rfl)
theorem dX7_added_17 : decode cX7_added 17 = .ok (.aload_n 0, 1) := dec_42 (gB drcX7_added_0 17 rfl rfl)
theorem dX7_added_18 : decode cX7_added 18 = .ok (.getfield 18, 3) := e_180 (x := 0) (y := 18) drcX7_added_0 18 rfl rfl
theorem dX7_added_21 : decode cX7_added 21 = .ok (.iload_n 3, 1) := dec_29 (gB drcX7_added_0 21 rfl rfl)
theorem dX7_added_22 : decode cX7_added 22 = .ok (.iaload, 1) := dec_46 (gB drcX7_added_0 22 rfl rfl)
theorem dX7_added_23 : decode cX7_added 23 = .ok (.i2l, 1) := dec_133 (gB drcX7_added_0 23 rfl rfl)
theorem dX7_added_24 : decode cX7_added 24 = .ok (.invokestatic 216, 3) := e_184 (x := 0) (y := 216) drcX7_added_0 24 rfl rfl
theorem dX7_added_27 : decode cX7_added 27 = .ok (.lstore 6, 2) := e_55 (x := 6) drcX7_added_0 27 rfl rfl
theorem dX7_added_29 : decode cX7_added 29 = .ok (.iconst 0, 1) := dec_3 (gB drcX7_added_0 29 rfl rfl)
theorem dX7_added_30 : decode cX7_added 30 = .ok (.istore 8, 2) := e_54 (x := 8) drcX7_added_0 30 rfl rfl
theorem dX7_added_32 : decode cX7_added 32 = .ok (.iload 8, 2) := e_21 (x := 8) drcX7_added_0 32 rfl rfl
theorem dX7_added_34 : decode cX7_added 34 = .ok (.aload_n 0, 1) := dec_42 (gB drcX7_added_0 34 rfl rfl)
theorem dX7_added_35 : decode cX7_added 35 = .ok (.getfield 18, 3) := e_180 (x := 0) (y := 18) drcX7_added_0 35 rfl rfl
theorem dX7_added_38 : decode cX7_added 38 = .ok (.iload_n 3, 1) := dec_29 (gB drcX7_added_0 38 rfl rfl)
theorem dX7_added_39 : decode cX7_added 39 = .ok (.iaload, 1) := dec_46 (gB drcX7_added_0 39 rfl rfl)
theorem dX7_added_40 : decode cX7_added 40 = .ok (.if_icmp .ge 26, 3) := e_162 (x := 0) (y := 26) drcX7_added_0 40 rfl rfl
theorem dX7_added_43 : decode cX7_added 43 = .ok (.lload 6, 2) := e_22 (x := 6) drcX7_added_0 43 rfl rfl
theorem dX7_added_45 : decode cX7_added 45 = .ok (.aload_n 0, 1) := dec_42 (gB drcX7_added_0 45 rfl rfl)
theorem dX7_added_46 : decode cX7_added 46 = .ok (.getfield 15, 3) := e_180 (x := 0) (y := 15) drcX7_added_0 46 rfl rfl
theorem dX7_added_49 : decode cX7_added 49 = .ok (.iload_n 3, 1) := dec_29 (gB drcX7_added_0 49 rfl rfl)
theorem dX7_added_50 : decode cX7_added 50 = .ok (.aaload, 1) := dec_50 (gB drcX7_added_0 50 rfl rfl)
theorem dX7_added_51 : decode cX7_added 51 = .ok (.iload 8, 2) := e_21 (x := 8) drcX7_added_0 51 rfl rfl
theorem dX7_added_53 : decode cX7_added 53 = .ok (.iaload, 1) := dec_46 (gB drcX7_added_0 53 rfl rfl)
theorem dX7_added_54 : decode cX7_added 54 = .ok (.i2l, 1) := dec_133 (gB drcX7_added_0 54 rfl rfl)
theorem dX7_added_55 : decode cX7_added 55 = .ok (.invokestatic 216, 3) := e_184 (x := 0) (y := 216) drcX7_added_0 55 rfl rfl
theorem dX7_added_58 : decode cX7_added 58 = .ok (.lstore 6, 2) := e_55 (x := 6) drcX7_added_0 58 rfl rfl
theorem dX7_added_60 : decode cX7_added 60 = .ok (.iinc 8 1, 3) := e_132 (x := 8) (y := 1) drcX7_added_0 60 rfl rfl
theorem dX7_added_63 : decode cX7_added 63 = .ok (.goto (-31), 3) := dec_167 (a := 255) (b := 225) (gB drcX7_added_0 63 rfl rfl) (gB drcX7_added_1 0 rfl rfl) (gB drcX7_added_1 1 rfl rfl)
theorem dX7_added_66 : decode cX7_added 66 = .ok (.lload 6, 2) := e_22 (x := 6) drcX7_added_1 2 rfl rfl
theorem dX7_added_68 : decode cX7_added 68 = .ok (.aload 4, 2) := e_25 (x := 4) drcX7_added_1 4 rfl rfl
theorem dX7_added_70 : decode cX7_added 70 = .ok (.arraylength, 1) := dec_190 (gB drcX7_added_1 6 rfl rfl)
theorem dX7_added_71 : decode cX7_added 71 = .ok (.i2l, 1) := dec_133 (gB drcX7_added_1 7 rfl rfl)
theorem dX7_added_72 : decode cX7_added 72 = .ok (.invokestatic 216, 3) := e_184 (x := 0) (y := 216) drcX7_added_1 8 rfl rfl
theorem dX7_added_75 : decode cX7_added 75 = .ok (.aload 5, 2) := e_25 (x := 5) drcX7_added_1 11 rfl rfl
theorem dX7_added_77 : decode cX7_added 77 = .ok (.arraylength, 1) := dec_190 (gB drcX7_added_1 13 rfl rfl)
theorem dX7_added_78 : decode cX7_added 78 = .ok (.i2l, 1) := dec_133 (gB drcX7_added_1 14 rfl rfl)
theorem dX7_added_79 : decode cX7_added 79 = .ok (.invokestatic 216, 3) := e_184 (x := 0) (y := 216) drcX7_added_1 15 rfl rfl
theorem dX7_added_82 : decode cX7_added 82 = .ok (.lstore 6, 2) := e_55 (x := 6) drcX7_added_1 18 rfl rfl
theorem dX7_added_84 : decode cX7_added 84 = .ok (.lload 6, 2) := e_22 (x := 6) drcX7_added_1 20 rfl rfl
theorem dX7_added_86 : decode cX7_added 86 = .ok (.aload 4, 2) := e_25 (x := 4) drcX7_added_1 22 rfl rfl
theorem dX7_added_88 : decode cX7_added 88 = .ok (.invokestatic 41, 3) := e_184 (x := 0) (y := 41) drcX7_added_1 24 rfl rfl
theorem dX7_added_91 : decode cX7_added 91 = .ok (.i2l, 1) := dec_133 (gB drcX7_added_1 27 rfl rfl)
theorem dX7_added_92 : decode cX7_added 92 = .ok (.invokestatic 216, 3) := e_184 (x := 0) (y := 216) drcX7_added_1 28 rfl rfl
theorem dX7_added_95 : decode cX7_added 95 = .ok (.aload 5, 2) := e_25 (x := 5) drcX7_added_1 31 rfl rfl
theorem dX7_added_97 : decode cX7_added 97 = .ok (.invokestatic 41, 3) := e_184 (x := 0) (y := 41) drcX7_added_1 33 rfl rfl
theorem dX7_added_100 : decode cX7_added 100 = .ok (.i2l, 1) := dec_133 (gB drcX7_added_1 36 rfl rfl)
theorem dX7_added_101 : decode cX7_added 101 = .ok (.invokestatic 216, 3) := e_184 (x := 0) (y := 216) drcX7_added_1 37 rfl rfl
theorem dX7_added_104 : decode cX7_added 104 = .ok (.lstore 6, 2) := e_55 (x := 6) drcX7_added_1 40 rfl rfl
theorem dX7_added_106 : decode cX7_added 106 = .ok (.lload 6, 2) := e_22 (x := 6) drcX7_added_1 42 rfl rfl
theorem dX7_added_108 : decode cX7_added 108 = .ok (.aload 4, 2) := e_25 (x := 4) drcX7_added_1 44 rfl rfl
theorem dX7_added_110 : decode cX7_added 110 = .ok (.aload 5, 2) := e_25 (x := 5) drcX7_added_1 46 rfl rfl
theorem dX7_added_112 : decode cX7_added 112 = .ok (.invokestatic 196, 3) := e_184 (x := 0) (y := 196) drcX7_added_1 48 rfl rfl
theorem dX7_added_115 : decode cX7_added 115 = .ok (.i2l, 1) := dec_133 (gB drcX7_added_1 51 rfl rfl)
theorem dX7_added_116 : decode cX7_added 116 = .ok (.invokestatic 216, 3) := e_184 (x := 0) (y := 216) drcX7_added_1 52 rfl rfl
theorem dX7_added_119 : decode cX7_added 119 = .ok (.aload 4, 2) := e_25 (x := 4) drcX7_added_1 55 rfl rfl
theorem dX7_added_121 : decode cX7_added 121 = .ok (.aload 5, 2) := e_25 (x := 5) drcX7_added_1 57 rfl rfl
theorem dX7_added_123 : decode cX7_added 123 = .ok (.invokestatic 200, 3) := e_184 (x := 0) (y := 200) drcX7_added_1 59 rfl rfl
theorem dX7_added_126 : decode cX7_added 126 = .ok (.i2l, 1) := dec_133 (gB drcX7_added_1 62 rfl rfl)
theorem dX7_added_127 : decode cX7_added 127 = .ok (.invokestatic 216, 3) := dec_184 (a := 0) (b := 216) (gB drcX7_added_1 63 rfl rfl) (gB drcX7_added_2 0 rfl rfl) (gB drcX7_added_2 1 rfl rfl)
theorem dX7_added_130 : decode cX7_added 130 = .ok (.lreturn, 1) := dec_173 (gB drcX7_added_2 2 rfl rfl)
def lkcX7_digest_0 : List UInt8 := [0x2a, 0x03, 0xb5, 0x00, 0x15, 0x14, 0x00, 0xdc, 0x40, 0x2a, 0xb4, 0x00, 0x09, 0x4e, 0x2d, 0xbe, 0x36, 0x04, 0x03, 0x36, 0x05, 0x15, 0x05, 0x15, 0x04, 0xa2, 0x00, 0x85, 0x2d, 0x15, 0x05, 0x32, 0x3a, 0x06, 0x1f, 0x19, 0x06, 0xbe, 0x85, 0xb8, 0x00, 0xd8, 0x40, 0x19, 0x06, 0x3a, 0x07, 0x19, 0x07, 0xbe, 0x36, 0x08, 0x03, 0x36, 0x09, 0x15, 0x09, 0x15, 0x08, 0xa2, 0x00, 0x1a, 0x19, 0x07]
def lkcX7_digest_1 : List UInt8 := [0x15, 0x09, 0x2e, 0x36, 0x0a, 0x1f, 0x15, 0x0a, 0x04, 0x60, 0x85, 0xb8, 0x00, 0xd8, 0x40, 0x84, 0x09, 0x01, 0xa7, 0xff, 0xe5, 0x1f, 0x19, 0x06, 0xb8, 0x00, 0x29, 0x85, 0xb8, 0x00, 0xd8, 0x19, 0x06, 0x03, 0x19, 0x06, 0xbe, 0xb8, 0x00, 0x9c, 0xb8, 0x00, 0x4f, 0x85, 0xb8, 0x00, 0xd8, 0x40, 0x1f, 0x19, 0x06, 0xb8, 0x00, 0xb1, 0x85, 0xb8, 0x00, 0xd8, 0x19, 0x06, 0xb8, 0x00, 0xb4, 0x85]
def lkcX7_digest_2 : List UInt8 := [0xb8, 0x00, 0xd8, 0x40, 0x1f, 0x19, 0x06, 0xb8, 0x00, 0xb7, 0x85, 0xb8, 0x00, 0xd8, 0x19, 0x06, 0xb8, 0x00, 0xba, 0x85, 0xb8, 0x00, 0xd8, 0x40, 0x84, 0x05, 0x01, 0xa7, 0xff, 0x7a, 0x2a, 0x2a, 0x1f, 0x03, 0xb6, 0x00, 0xde, 0x04, 0xb6, 0x00, 0xde, 0x40, 0x03, 0x3e, 0x1d, 0x07, 0xa2, 0x00, 0x14, 0x1f, 0x2a, 0x1d, 0xb6, 0x00, 0xce, 0x85, 0xb8, 0x00, 0xd8, 0x40, 0x84, 0x03, 0x01, 0xa7]
def lkcX7_digest_3 : List UInt8 := [0xff, 0xed, 0x1f, 0x2a, 0xb6, 0x00, 0xd2, 0xb8, 0x00, 0x4f, 0x85, 0xb8, 0x00, 0xd8, 0xad]
def tkcX7_digest_3 : List UInt8 := lkcX7_digest_3 ++ []
def tkcX7_digest_2 : List UInt8 := lkcX7_digest_2 ++ tkcX7_digest_3
def tkcX7_digest_1 : List UInt8 := lkcX7_digest_1 ++ tkcX7_digest_2
def tkcX7_digest_0 : List UInt8 := lkcX7_digest_0 ++ tkcX7_digest_1
theorem drcX7_digest_0 : (cX7_digest).data.toList.drop 0 = lkcX7_digest_0 ++ tkcX7_digest_1 := by decide +kernel
theorem drcX7_digest_1 : (cX7_digest).data.toList.drop 64 = lkcX7_digest_1 ++ tkcX7_digest_2 := dr_step drcX7_digest_0 rfl
theorem drcX7_digest_2 : (cX7_digest).data.toList.drop 128 = lkcX7_digest_2 ++ tkcX7_digest_3 := dr_step drcX7_digest_1 rfl
theorem drcX7_digest_3 : (cX7_digest).data.toList.drop 192 = lkcX7_digest_3 ++ [] := dr_step drcX7_digest_2 rfl
theorem dX7_digest_0 : decode cX7_digest 0 = .ok (.aload_n 0, 1) := dec_42 (gB drcX7_digest_0 0 rfl rfl)
theorem dX7_digest_1 : decode cX7_digest 1 = .ok (.iconst 0, 1) := dec_3 (gB drcX7_digest_0 1 rfl rfl)
theorem dX7_digest_2 : decode cX7_digest 2 = .ok (.putfield 21, 3) := e_181 (x := 0) (y := 21) drcX7_digest_0 2 rfl rfl
theorem dX7_digest_5 : decode cX7_digest 5 = .ok (.ldc2_w 220, 3) := e_20 (x := 0) (y := 220) drcX7_digest_0 5 rfl rfl
theorem dX7_digest_8 : decode cX7_digest 8 = .ok (.lstore_n 1, 1) := dec_64 (gB drcX7_digest_0 8 rfl rfl)
theorem dX7_digest_9 : decode cX7_digest 9 = .ok (.aload_n 0, 1) := dec_42 (gB drcX7_digest_0 9 rfl rfl)
theorem dX7_digest_10 : decode cX7_digest 10 = .ok (.getfield 9, 3) := e_180 (x := 0) (y := 9) drcX7_digest_0 10 rfl rfl
theorem dX7_digest_13 : decode cX7_digest 13 = .ok (.astore_n 3, 1) := dec_78 (gB drcX7_digest_0 13 rfl rfl)
theorem dX7_digest_14 : decode cX7_digest 14 = .ok (.aload_n 3, 1) := dec_45 (gB drcX7_digest_0 14 rfl rfl)
theorem dX7_digest_15 : decode cX7_digest 15 = .ok (.arraylength, 1) := dec_190 (gB drcX7_digest_0 15 rfl rfl)
theorem dX7_digest_16 : decode cX7_digest 16 = .ok (.istore 4, 2) := e_54 (x := 4) drcX7_digest_0 16 rfl rfl
theorem dX7_digest_18 : decode cX7_digest 18 = .ok (.iconst 0, 1) := dec_3 (gB drcX7_digest_0 18 rfl rfl)
theorem dX7_digest_19 : decode cX7_digest 19 = .ok (.istore 5, 2) := e_54 (x := 5) drcX7_digest_0 19 rfl rfl
theorem dX7_digest_21 : decode cX7_digest 21 = .ok (.iload 5, 2) := e_21 (x := 5) drcX7_digest_0 21 rfl rfl
theorem dX7_digest_23 : decode cX7_digest 23 = .ok (.iload 4, 2) := e_21 (x := 4) drcX7_digest_0 23 rfl rfl
theorem dX7_digest_25 : decode cX7_digest 25 = .ok (.if_icmp .ge 133, 3) := e_162 (x := 0) (y := 133) drcX7_digest_0 25 rfl rfl
theorem dX7_digest_28 : decode cX7_digest 28 = .ok (.aload_n 3, 1) := dec_45 (gB drcX7_digest_0 28 rfl rfl)
theorem dX7_digest_29 : decode cX7_digest 29 = .ok (.iload 5, 2) := e_21 (x := 5) drcX7_digest_0 29 rfl rfl
theorem dX7_digest_31 : decode cX7_digest 31 = .ok (.aaload, 1) := dec_50 (gB drcX7_digest_0 31 rfl rfl)
theorem dX7_digest_32 : decode cX7_digest 32 = .ok (.astore 6, 2) := e_58 (x := 6) drcX7_digest_0 32 rfl rfl
theorem dX7_digest_34 : decode cX7_digest 34 = .ok (.lload_n 1, 1) := dec_31 (gB drcX7_digest_0 34 rfl rfl)
theorem dX7_digest_35 : decode cX7_digest 35 = .ok (.aload 6, 2) := e_25 (x := 6) drcX7_digest_0 35 rfl rfl
theorem dX7_digest_37 : decode cX7_digest 37 = .ok (.arraylength, 1) := dec_190 (gB drcX7_digest_0 37 rfl rfl)
theorem dX7_digest_38 : decode cX7_digest 38 = .ok (.i2l, 1) := dec_133 (gB drcX7_digest_0 38 rfl rfl)
theorem dX7_digest_39 : decode cX7_digest 39 = .ok (.invokestatic 216, 3) := e_184 (x := 0) (y := 216) drcX7_digest_0 39 rfl rfl
theorem dX7_digest_42 : decode cX7_digest 42 = .ok (.lstore_n 1, 1) := dec_64 (gB drcX7_digest_0 42 rfl rfl)
theorem dX7_digest_43 : decode cX7_digest 43 = .ok (.aload 6, 2) := e_25 (x := 6) drcX7_digest_0 43 rfl rfl
theorem dX7_digest_45 : decode cX7_digest 45 = .ok (.astore 7, 2) := e_58 (x := 7) drcX7_digest_0 45 rfl rfl
theorem dX7_digest_47 : decode cX7_digest 47 = .ok (.aload 7, 2) := e_25 (x := 7) drcX7_digest_0 47 rfl rfl
theorem dX7_digest_49 : decode cX7_digest 49 = .ok (.arraylength, 1) := dec_190 (gB drcX7_digest_0 49 rfl rfl)
theorem dX7_digest_50 : decode cX7_digest 50 = .ok (.istore 8, 2) := e_54 (x := 8) drcX7_digest_0 50 rfl rfl
theorem dX7_digest_52 : decode cX7_digest 52 = .ok (.iconst 0, 1) := dec_3 (gB drcX7_digest_0 52 rfl rfl)
theorem dX7_digest_53 : decode cX7_digest 53 = .ok (.istore 9, 2) := e_54 (x := 9) drcX7_digest_0 53 rfl rfl
theorem dX7_digest_55 : decode cX7_digest 55 = .ok (.iload 9, 2) := e_21 (x := 9) drcX7_digest_0 55 rfl rfl
theorem dX7_digest_57 : decode cX7_digest 57 = .ok (.iload 8, 2) := e_21 (x := 8) drcX7_digest_0 57 rfl rfl
theorem dX7_digest_59 : decode cX7_digest 59 = .ok (.if_icmp .ge 26, 3) := e_162 (x := 0) (y := 26) drcX7_digest_0 59 rfl rfl
theorem dX7_digest_62 : decode cX7_digest 62 = .ok (.aload 7, 2) := e_25 (x := 7) drcX7_digest_0 62 rfl rfl
theorem dX7_digest_64 : decode cX7_digest 64 = .ok (.iload 9, 2) := e_21 (x := 9) drcX7_digest_1 0 rfl rfl
theorem dX7_digest_66 : decode cX7_digest 66 = .ok (.iaload, 1) := dec_46 (gB drcX7_digest_1 2 rfl rfl)
theorem dX7_digest_67 : decode cX7_digest 67 = .ok (.istore 10, 2) := e_54 (x := 10) drcX7_digest_1 3 rfl rfl
theorem dX7_digest_69 : decode cX7_digest 69 = .ok (.lload_n 1, 1) := dec_31 (gB drcX7_digest_1 5 rfl rfl)
theorem dX7_digest_70 : decode cX7_digest 70 = .ok (.iload 10, 2) := e_21 (x := 10) drcX7_digest_1 6 rfl rfl
theorem dX7_digest_72 : decode cX7_digest 72 = .ok (.iconst 1, 1) := dec_4 (gB drcX7_digest_1 8 rfl rfl)
theorem dX7_digest_73 : decode cX7_digest 73 = .ok (.iadd, 1) := dec_96 (gB drcX7_digest_1 9 rfl rfl)
theorem dX7_digest_74 : decode cX7_digest 74 = .ok (.i2l, 1) := dec_133 (gB drcX7_digest_1 10 rfl rfl)
theorem dX7_digest_75 : decode cX7_digest 75 = .ok (.invokestatic 216, 3) := e_184 (x := 0) (y := 216) drcX7_digest_1 11 rfl rfl
theorem dX7_digest_78 : decode cX7_digest 78 = .ok (.lstore_n 1, 1) := dec_64 (gB drcX7_digest_1 14 rfl rfl)
theorem dX7_digest_79 : decode cX7_digest 79 = .ok (.iinc 9 1, 3) := e_132 (x := 9) (y := 1) drcX7_digest_1 15 rfl rfl
theorem dX7_digest_82 : decode cX7_digest 82 = .ok (.goto (-27), 3) := e_167 (x := 255) (y := 229) drcX7_digest_1 18 rfl rfl
theorem dX7_digest_85 : decode cX7_digest 85 = .ok (.lload_n 1, 1) := dec_31 (gB drcX7_digest_1 21 rfl rfl)
theorem dX7_digest_86 : decode cX7_digest 86 = .ok (.aload 6, 2) := e_25 (x := 6) drcX7_digest_1 22 rfl rfl
theorem dX7_digest_88 : decode cX7_digest 88 = .ok (.invokestatic 41, 3) := e_184 (x := 0) (y := 41) drcX7_digest_1 24 rfl rfl
theorem dX7_digest_91 : decode cX7_digest 91 = .ok (.i2l, 1) := dec_133 (gB drcX7_digest_1 27 rfl rfl)
theorem dX7_digest_92 : decode cX7_digest 92 = .ok (.invokestatic 216, 3) := e_184 (x := 0) (y := 216) drcX7_digest_1 28 rfl rfl
theorem dX7_digest_95 : decode cX7_digest 95 = .ok (.aload 6, 2) := e_25 (x := 6) drcX7_digest_1 31 rfl rfl
theorem dX7_digest_97 : decode cX7_digest 97 = .ok (.iconst 0, 1) := dec_3 (gB drcX7_digest_1 33 rfl rfl)
theorem dX7_digest_98 : decode cX7_digest 98 = .ok (.aload 6, 2) := e_25 (x := 6) drcX7_digest_1 34 rfl rfl
theorem dX7_digest_100 : decode cX7_digest 100 = .ok (.arraylength, 1) := dec_190 (gB drcX7_digest_1 36 rfl rfl)
theorem dX7_digest_101 : decode cX7_digest 101 = .ok (.invokestatic 156, 3) := e_184 (x := 0) (y := 156) drcX7_digest_1 37 rfl rfl
theorem dX7_digest_104 : decode cX7_digest 104 = .ok (.invokestatic 79, 3) := e_184 (x := 0) (y := 79) drcX7_digest_1 40 rfl rfl
theorem dX7_digest_107 : decode cX7_digest 107 = .ok (.i2l, 1) := dec_133 (gB drcX7_digest_1 43 rfl rfl)
theorem dX7_digest_108 : decode cX7_digest 108 = .ok (.invokestatic 216, 3) := e_184 (x := 0) (y := 216) drcX7_digest_1 44 rfl rfl
theorem dX7_digest_111 : decode cX7_digest 111 = .ok (.lstore_n 1, 1) := dec_64 (gB drcX7_digest_1 47 rfl rfl)
theorem dX7_digest_112 : decode cX7_digest 112 = .ok (.lload_n 1, 1) := dec_31 (gB drcX7_digest_1 48 rfl rfl)
theorem dX7_digest_113 : decode cX7_digest 113 = .ok (.aload 6, 2) := e_25 (x := 6) drcX7_digest_1 49 rfl rfl
theorem dX7_digest_115 : decode cX7_digest 115 = .ok (.invokestatic 177, 3) := e_184 (x := 0) (y := 177) drcX7_digest_1 51 rfl rfl
theorem dX7_digest_118 : decode cX7_digest 118 = .ok (.i2l, 1) := dec_133 (gB drcX7_digest_1 54 rfl rfl)
theorem dX7_digest_119 : decode cX7_digest 119 = .ok (.invokestatic 216, 3) := e_184 (x := 0) (y := 216) drcX7_digest_1 55 rfl rfl
theorem dX7_digest_122 : decode cX7_digest 122 = .ok (.aload 6, 2) := e_25 (x := 6) drcX7_digest_1 58 rfl rfl
theorem dX7_digest_124 : decode cX7_digest 124 = .ok (.invokestatic 180, 3) := e_184 (x := 0) (y := 180) drcX7_digest_1 60 rfl rfl
theorem dX7_digest_127 : decode cX7_digest 127 = .ok (.i2l, 1) := dec_133 (gB drcX7_digest_1 63 rfl rfl)
theorem dX7_digest_128 : decode cX7_digest 128 = .ok (.invokestatic 216, 3) := e_184 (x := 0) (y := 216) drcX7_digest_2 0 rfl rfl
theorem dX7_digest_131 : decode cX7_digest 131 = .ok (.lstore_n 1, 1) := dec_64 (gB drcX7_digest_2 3 rfl rfl)
theorem dX7_digest_132 : decode cX7_digest 132 = .ok (.lload_n 1, 1) := dec_31 (gB drcX7_digest_2 4 rfl rfl)
theorem dX7_digest_133 : decode cX7_digest 133 = .ok (.aload 6, 2) := e_25 (x := 6) drcX7_digest_2 5 rfl rfl
theorem dX7_digest_135 : decode cX7_digest 135 = .ok (.invokestatic 183, 3) := e_184 (x := 0) (y := 183) drcX7_digest_2 7 rfl rfl
theorem dX7_digest_138 : decode cX7_digest 138 = .ok (.i2l, 1) := dec_133 (gB drcX7_digest_2 10 rfl rfl)
theorem dX7_digest_139 : decode cX7_digest 139 = .ok (.invokestatic 216, 3) := e_184 (x := 0) (y := 216) drcX7_digest_2 11 rfl rfl
theorem dX7_digest_142 : decode cX7_digest 142 = .ok (.aload 6, 2) := e_25 (x := 6) drcX7_digest_2 14 rfl rfl
theorem dX7_digest_144 : decode cX7_digest 144 = .ok (.invokestatic 186, 3) := e_184 (x := 0) (y := 186) drcX7_digest_2 16 rfl rfl
theorem dX7_digest_147 : decode cX7_digest 147 = .ok (.i2l, 1) := dec_133 (gB drcX7_digest_2 19 rfl rfl)
theorem dX7_digest_148 : decode cX7_digest 148 = .ok (.invokestatic 216, 3) := e_184 (x := 0) (y := 216) drcX7_digest_2 20 rfl rfl
theorem dX7_digest_151 : decode cX7_digest 151 = .ok (.lstore_n 1, 1) := dec_64 (gB drcX7_digest_2 23 rfl rfl)
theorem dX7_digest_152 : decode cX7_digest 152 = .ok (.iinc 5 1, 3) := e_132 (x := 5) (y := 1) drcX7_digest_2 24 rfl rfl
theorem dX7_digest_155 : decode cX7_digest 155 = .ok (.goto (-134), 3) := e_167 (x := 255) (y := 122) drcX7_digest_2 27 rfl rfl
theorem dX7_digest_158 : decode cX7_digest 158 = .ok (.aload_n 0, 1) := dec_42 (gB drcX7_digest_2 30 rfl rfl)
theorem dX7_digest_159 : decode cX7_digest 159 = .ok (.aload_n 0, 1) := dec_42 (gB drcX7_digest_2 31 rfl rfl)
theorem dX7_digest_160 : decode cX7_digest 160 = .ok (.lload_n 1, 1) := dec_31 (gB drcX7_digest_2 32 rfl rfl)
theorem dX7_digest_161 : decode cX7_digest 161 = .ok (.iconst 0, 1) := dec_3 (gB drcX7_digest_2 33 rfl rfl)
theorem dX7_digest_162 : decode cX7_digest 162 = .ok (.invokevirtual 222, 3) := e_182 (x := 0) (y := 222) drcX7_digest_2 34 rfl rfl
theorem dX7_digest_165 : decode cX7_digest 165 = .ok (.iconst 1, 1) := dec_4 (gB drcX7_digest_2 37 rfl rfl)
theorem dX7_digest_166 : decode cX7_digest 166 = .ok (.invokevirtual 222, 3) := e_182 (x := 0) (y := 222) drcX7_digest_2 38 rfl rfl
theorem dX7_digest_169 : decode cX7_digest 169 = .ok (.lstore_n 1, 1) := dec_64 (gB drcX7_digest_2 41 rfl rfl)
theorem dX7_digest_170 : decode cX7_digest 170 = .ok (.iconst 0, 1) := dec_3 (gB drcX7_digest_2 42 rfl rfl)
theorem dX7_digest_171 : decode cX7_digest 171 = .ok (.istore_n 3, 1) := dec_62 (gB drcX7_digest_2 43 rfl rfl)
theorem dX7_digest_172 : decode cX7_digest 172 = .ok (.iload_n 3, 1) := dec_29 (gB drcX7_digest_2 44 rfl rfl)
theorem dX7_digest_173 : decode cX7_digest 173 = .ok (.iconst 4, 1) := dec_7 (gB drcX7_digest_2 45 rfl rfl)
theorem dX7_digest_174 : decode cX7_digest 174 = .ok (.if_icmp .ge 20, 3) := e_162 (x := 0) (y := 20) drcX7_digest_2 46 rfl rfl
theorem dX7_digest_177 : decode cX7_digest 177 = .ok (.lload_n 1, 1) := dec_31 (gB drcX7_digest_2 49 rfl rfl)
theorem dX7_digest_178 : decode cX7_digest 178 = .ok (.aload_n 0, 1) := dec_42 (gB drcX7_digest_2 50 rfl rfl)
theorem dX7_digest_179 : decode cX7_digest 179 = .ok (.iload_n 3, 1) := dec_29 (gB drcX7_digest_2 51 rfl rfl)
theorem dX7_digest_180 : decode cX7_digest 180 = .ok (.invokevirtual 206, 3) := e_182 (x := 0) (y := 206) drcX7_digest_2 52 rfl rfl
theorem dX7_digest_183 : decode cX7_digest 183 = .ok (.i2l, 1) := dec_133 (gB drcX7_digest_2 55 rfl rfl)
theorem dX7_digest_184 : decode cX7_digest 184 = .ok (.invokestatic 216, 3) := e_184 (x := 0) (y := 216) drcX7_digest_2 56 rfl rfl
theorem dX7_digest_187 : decode cX7_digest 187 = .ok (.lstore_n 1, 1) := dec_64 (gB drcX7_digest_2 59 rfl rfl)
theorem dX7_digest_188 : decode cX7_digest 188 = .ok (.iinc 3 1, 3) := e_132 (x := 3) (y := 1) drcX7_digest_2 60 rfl rfl
theorem dX7_digest_191 : decode cX7_digest 191 = .ok (.goto (-19), 3) := dec_167 (a := 255) (b := 237) (gB drcX7_digest_2 63 rfl rfl) (gB drcX7_digest_3 0 rfl rfl) (gB drcX7_digest_3 1 rfl rfl)
theorem dX7_digest_194 : decode cX7_digest 194 = .ok (.lload_n 1, 1) := dec_31 (gB drcX7_digest_3 2 rfl rfl)
theorem dX7_digest_195 : decode cX7_digest 195 = .ok (.aload_n 0, 1) := dec_42 (gB drcX7_digest_3 3 rfl rfl)
theorem dX7_digest_196 : decode cX7_digest 196 = .ok (.invokevirtual 210, 3) := e_182 (x := 0) (y := 210) drcX7_digest_3 4 rfl rfl
theorem dX7_digest_199 : decode cX7_digest 199 = .ok (.invokestatic 79, 3) := e_184 (x := 0) (y := 79) drcX7_digest_3 7 rfl rfl
theorem dX7_digest_202 : decode cX7_digest 202 = .ok (.i2l, 1) := dec_133 (gB drcX7_digest_3 10 rfl rfl)
theorem dX7_digest_203 : decode cX7_digest 203 = .ok (.invokestatic 216, 3) := e_184 (x := 0) (y := 216) drcX7_digest_3 11 rfl rfl
theorem dX7_digest_206 : decode cX7_digest 206 = .ok (.lreturn, 1) := dec_173 (gB drcX7_digest_3 14 rfl rfl)
