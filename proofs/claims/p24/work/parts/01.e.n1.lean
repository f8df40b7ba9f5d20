def lkcL_write_0 : List UInt8 := [0x2d, 0x2a, 0x1b, 0x1c, 0xb6, 0x00, 0x07, 0x85, 0xb5, 0x00, 0x0d, 0xa7, 0x00, 0x0b, 0x3a, 0x04, 0x04, 0xac, 0x3a, 0x04, 0x05, 0xac, 0x03, 0xac]
def tkcL_write_0 : List UInt8 := lkcL_write_0 ++ []
theorem drcL_write_0 : (cL_write).data.toList.drop 0 = lkcL_write_0 ++ [] := by decide +kernel
theorem dL_write_0 : decode cL_write 0 = .ok (.aload_n 3, 1) := dec_45 (gB drcL_write_0 0 rfl rfl)
theorem dL_write_1 : decode cL_write 1 = .ok (.aload_n 0, 1) := dec_42 (gB drcL_write_0 1 rfl rfl)
theorem dL_write_2 : decode cL_write 2 = .ok (.iload_n 1, 1) := dec_27 (gB drcL_write_0 2 rfl rfl)
theorem dL_write_3 : decode cL_write 3 = .ok (.iload_n 2, 1) := dec_28 (gB drcL_write_0 3 rfl rfl)
theorem dL_write_4 : decode cL_write 4 = .ok (.invokevirtual 7, 3) := e_182 (x := 0) (y := 7) drcL_write_0 4 rfl rfl
theorem dL_write_7 : decode cL_write 7 = .ok (.i2l, 1) := dec_133 (gB drcL_write_0 7 rfl rfl)
theorem dL_write_8 : decode cL_write 8 = .ok (.putfield 13, 3) := e_181 (x := 0) (y := 13) drcL_write_0 8 rfl rfl
theorem dL_write_11 : decode cL_write 11 = .ok (.goto 11, 3) := e_167 (x := 0) (y := 11) drcL_write_0 11 rfl rfl
theorem dL_write_14 : decode cL_write 14 = .ok (.astore 4, 2) := e_58 (x := 4) drcL_write_0 14 rfl rfl
theorem dL_write_16 : decode cL_write 16 = .ok (.iconst 1, 1) := dec_4 (gB drcL_write_0 16 rfl rfl)
theorem dL_write_17 : decode cL_write 17 = .ok (.ireturn, 1) := dec_172 (gB drcL_write_0 17 rfl rfl)
theorem dL_write_18 : decode cL_write 18 = .ok (.astore 4, 2) := e_58 (x := 4) drcL_write_0 18 rfl rfl
theorem dL_write_20 : decode cL_write 20 = .ok (.iconst 2, 1) := dec_5 (gB drcL_write_0 20 rfl rfl)
theorem dL_write_21 : decode cL_write 21 = .ok (.ireturn, 1) := dec_172 (gB drcL_write_0 21 rfl rfl)
theorem dL_write_22 : decode cL_write 22 = .ok (.iconst 0, 1) := dec_3 (gB drcL_write_0 22 rfl rfl)
theorem dL_write_23 : decode cL_write 23 = .ok (.ireturn, 1) := dec_172 (gB drcL_write_0 23 rfl rfl)
def lkcL_append_0 : List UInt8 := [0x2d, 0x2a, 0x1b, 0x1c, 0xb6, 0x00, 0x17, 0x85, 0xb5, 0x00, 0x0d, 0xa7, 0x00, 0x07, 0x3a, 0x04, 0x04, 0xac, 0x03, 0xac]
def tkcL_append_0 : List UInt8 := lkcL_append_0 ++ []
theorem drcL_append_0 : (cL_append).data.toList.drop 0 = lkcL_append_0 ++ [] := by decide +kernel
theorem dL_append_0 : decode cL_append 0 = .ok (.aload_n 3, 1) := dec_45 (gB drcL_append_0 0 rfl rfl)
theorem dL_append_1 : decode cL_append 1 = .ok (.aload_n 0, 1) := dec_42 (gB drcL_append_0 1 rfl rfl)
theorem dL_append_2 : decode cL_append 2 = .ok (.iload_n 1, 1) := dec_27 (gB drcL_append_0 2 rfl rfl)
theorem dL_append_3 : decode cL_append 3 = .ok (.iload_n 2, 1) := dec_28 (gB drcL_append_0 3 rfl rfl)
theorem dL_append_4 : decode cL_append 4 = .ok (.invokevirtual 23, 3) := e_182 (x := 0) (y := 23) drcL_append_0 4 rfl rfl
theorem dL_append_7 : decode cL_append 7 = .ok (.i2l, 1) := dec_133 (gB drcL_append_0 7 rfl rfl)
theorem dL_append_8 : decode cL_append 8 = .ok (.putfield 13, 3) := e_181 (x := 0) (y := 13) drcL_append_0 8 rfl rfl
theorem dL_append_11 : decode cL_append 11 = .ok (.goto 7, 3) := e_167 (x := 0) (y := 7) drcL_append_0 11 rfl rfl
theorem dL_append_14 : decode cL_append 14 = .ok (.astore 4, 2) := e_58 (x := 4) drcL_append_0 14 rfl rfl
theorem dL_append_16 : decode cL_append 16 = .ok (.iconst 1, 1) := dec_4 (gB drcL_append_0 16 rfl rfl)
theorem dL_append_17 : decode cL_append 17 = .ok (.ireturn, 1) := dec_172 (gB drcL_append_0 17 rfl rfl)
theorem dL_append_18 : decode cL_append 18 = .ok (.iconst 0, 1) := dec_3 (gB drcL_append_0 18 rfl rfl)
theorem dL_append_19 : decode cL_append 19 = .ok (.ireturn, 1) := dec_172 (gB drcL_append_0 19 rfl rfl)
def lkcL_insertSign_0 : List UInt8 := [0x19, 0x04, 0x2a, 0x1b, 0x1c, 0x1d, 0xb6, 0x00, 0x1a, 0x85, 0xb5, 0x00, 0x0d, 0xa7, 0x00, 0x07, 0x3a, 0x05, 0x04, 0xac, 0x03, 0xac]
def tkcL_insertSign_0 : List UInt8 := lkcL_insertSign_0 ++ []
theorem drcL_insertSign_0 : (cL_insertSign).data.toList.drop 0 = lkcL_insertSign_0 ++ [] := by decide +kernel
theorem dL_insertSign_0 : decode cL_insertSign 0 = .ok (.aload 4, 2) := e_25 (x := 4) drcL_insertSign_0 0 rfl rfl
theorem dL_insertSign_2 : decode cL_insertSign 2 = .ok (.aload_n 0, 1) := dec_42 (gB drcL_insertSign_0 2 rfl rfl)
theorem dL_insertSign_3 : decode cL_insertSign 3 = .ok (.iload_n 1, 1) := dec_27 (gB drcL_insertSign_0 3 rfl rfl)
theorem dL_insertSign_4 : decode cL_insertSign 4 = .ok (.iload_n 2, 1) := dec_28 (gB drcL_insertSign_0 4 rfl rfl)
theorem dL_insertSign_5 : decode cL_insertSign 5 = .ok (.iload_n 3, 1) := dec_29 (gB drcL_insertSign_0 5 rfl rfl)
theorem dL_insertSign_6 : decode cL_insertSign 6 = .ok (.invokevirtual 26, 3) := e_182 (x := 0) (y := 26) drcL_insertSign_0 6 rfl rfl
theorem dL_insertSign_9 : decode cL_insertSign 9 = .ok (.i2l, 1) := dec_133 (gB drcL_insertSign_0 9 rfl rfl)
theorem dL_insertSign_10 : decode cL_insertSign 10 = .ok (.putfield 13, 3) := e_181 (x := 0) (y := 13) drcL_insertSign_0 10 rfl rfl
theorem dL_insertSign_13 : decode cL_insertSign 13 = .ok (.goto 7, 3) := e_167 (x := 0) (y := 7) drcL_insertSign_0 13 rfl rfl
theorem dL_insertSign_16 : decode cL_insertSign 16 = .ok (.astore 5, 2) := e_58 (x := 5) drcL_insertSign_0 16 rfl rfl
theorem dL_insertSign_18 : decode cL_insertSign 18 = .ok (.iconst 1, 1) := dec_4 (gB drcL_insertSign_0 18 rfl rfl)
theorem dL_insertSign_19 : decode cL_insertSign 19 = .ok (.ireturn, 1) := dec_172 (gB drcL_insertSign_0 19 rfl rfl)
theorem dL_insertSign_20 : decode cL_insertSign 20 = .ok (.iconst 0, 1) := dec_3 (gB drcL_insertSign_0 20 rfl rfl)
theorem dL_insertSign_21 : decode cL_insertSign 21 = .ok (.ireturn, 1) := dec_172 (gB drcL_insertSign_0 21 rfl rfl)
def lkcL_insertSheet_0 : List UInt8 := [0x19, 0x04, 0x2a, 0x1b, 0x1c, 0x1d, 0xb6, 0x00, 0x1e, 0x85, 0xb5, 0x00, 0x0d, 0xa7, 0x00, 0x07, 0x3a, 0x05, 0x04, 0xac, 0x03, 0xac]
def tkcL_insertSheet_0 : List UInt8 := lkcL_insertSheet_0 ++ []
theorem drcL_insertSheet_0 : (cL_insertSheet).data.toList.drop 0 = lkcL_insertSheet_0 ++ [] := by decide +kernel
theorem dL_insertSheet_0 : decode cL_insertSheet 0 = .ok (.aload 4, 2) := e_25 (x := 4) drcL_insertSheet_0 0 rfl rfl
theorem dL_insertSheet_2 : decode cL_insertSheet 2 = .ok (.aload_n 0, 1) := dec_42 (gB drcL_insertSheet_0 2 rfl rfl)
theorem dL_insertSheet_3 : decode cL_insertSheet 3 = .ok (.iload_n 1, 1) := dec_27 (gB drcL_insertSheet_0 3 rfl rfl)
theorem dL_insertSheet_4 : decode cL_insertSheet 4 = .ok (.iload_n 2, 1) := dec_28 (gB drcL_insertSheet_0 4 rfl rfl)
theorem dL_insertSheet_5 : decode cL_insertSheet 5 = .ok (.iload_n 3, 1) := dec_29 (gB drcL_insertSheet_0 5 rfl rfl)
theorem dL_insertSheet_6 : decode cL_insertSheet 6 = .ok (.invokevirtual 30, 3) := e_182 (x := 0) (y := 30) drcL_insertSheet_0 6 rfl rfl
theorem dL_insertSheet_9 : decode cL_insertSheet 9 = .ok (.i2l, 1) := dec_133 (gB drcL_insertSheet_0 9 rfl rfl)
theorem dL_insertSheet_10 : decode cL_insertSheet 10 = .ok (.putfield 13, 3) := e_181 (x := 0) (y := 13) drcL_insertSheet_0 10 rfl rfl
theorem dL_insertSheet_13 : decode cL_insertSheet 13 = .ok (.goto 7, 3) := e_167 (x := 0) (y := 7) drcL_insertSheet_0 13 rfl rfl
theorem dL_insertSheet_16 : decode cL_insertSheet 16 = .ok (.astore 5, 2) := e_58 (x := 5) drcL_insertSheet_0 16 rfl rfl
theorem dL_insertSheet_18 : decode cL_insertSheet 18 = .ok (.iconst 1, 1) := dec_4 (gB drcL_insertSheet_0 18 rfl rfl)
theorem dL_insertSheet_19 : decode cL_insertSheet 19 = .ok (.ireturn, 1) := dec_172 (gB drcL_insertSheet_0 19 rfl rfl)
theorem dL_insertSheet_20 : decode cL_insertSheet 20 = .ok (.iconst 0, 1) := dec_3 (gB drcL_insertSheet_0 20 rfl rfl)
theorem dL_insertSheet_21 : decode cL_insertSheet 21 = .ok (.ireturn, 1) := dec_172 (gB drcL_insertSheet_0 21 rfl rfl)
def lkcL_setSign_0 : List UInt8 := [0x19, 0x04, 0x2a, 0x1b, 0x1c, 0x1d, 0xb6, 0x00, 0x22, 0x85, 0xb5, 0x00, 0x0d, 0xa7, 0x00, 0x07, 0x3a, 0x05, 0x04, 0xac, 0x03, 0xac]
def tkcL_setSign_0 : List UInt8 := lkcL_setSign_0 ++ []
theorem drcL_setSign_0 : (cL_setSign).data.toList.drop 0 = lkcL_setSign_0 ++ [] := by decide +kernel
theorem dL_setSign_0 : decode cL_setSign 0 = .ok (.aload 4, 2) := e_25 (x := 4) drcL_setSign_0 0 rfl rfl
theorem dL_setSign_2 : decode cL_setSign 2 = .ok (.aload_n 0, 1) := dec_42 (gB drcL_setSign_0 2 rfl rfl)
theorem dL_setSign_3 : decode cL_setSign 3 = .ok (.iload_n 1, 1) := dec_27 (gB drcL_setSign_0 3 rfl rfl)
theorem dL_setSign_4 : decode cL_setSign 4 = .ok (.iload_n 2, 1) := dec_28 (gB drcL_setSign_0 4 rfl rfl)
theorem dL_setSign_5 : decode cL_setSign 5 = .ok (.iload_n 3, 1) := dec_29 (gB drcL_setSign_0 5 rfl rfl)
theorem dL_setSign_6 : decode cL_setSign 6 = .ok (.invokevirtual 34, 3) := e_182 (x := 0) (y := 34) drcL_setSign_0 6 rfl rfl
theorem dL_setSign_9 : decode cL_setSign 9 = .ok (.i2l, 1) := dec_133 (gB drcL_setSign_0 9 rfl rfl)
theorem dL_setSign_10 : decode cL_setSign 10 = .ok (.putfield 13, 3) := e_181 (x := 0) (y := 13) drcL_setSign_0 10 rfl rfl
theorem dL_setSign_13 : decode cL_setSign 13 = .ok (.goto 7, 3) := e_167 (x := 0) (y := 7) drcL_setSign_0 13 rfl rfl
theorem dL_setSign_16 : decode cL_setSign 16 = .ok (.astore 5, 2) := e_58 (x := 5) drcL_setSign_0 16 rfl rfl
theorem dL_setSign_18 : decode cL_setSign 18 = .ok (.iconst 1, 1) := dec_4 (gB drcL_setSign_0 18 rfl rfl)
theorem dL_setSign_19 : decode cL_setSign 19 = .ok (.ireturn, 1) := dec_172 (gB drcL_setSign_0 19 rfl rfl)
theorem dL_setSign_20 : decode cL_setSign 20 = .ok (.iconst 0, 1) := dec_3 (gB drcL_setSign_0 20 rfl rfl)
theorem dL_setSign_21 : decode cL_setSign 21 = .ok (.ireturn, 1) := dec_172 (gB drcL_setSign_0 21 rfl rfl)
def lkcL_removeSign_0 : List UInt8 := [0x2d, 0x2a, 0x1b, 0x1c, 0xb6, 0x00, 0x25, 0x85, 0xb5, 0x00, 0x0d, 0xa7, 0x00, 0x07, 0x3a, 0x04, 0x04, 0xac, 0x03, 0xac]
def tkcL_removeSign_0 : List UInt8 := lkcL_removeSign_0 ++ []
theorem drcL_removeSign_0 : (cL_removeSign).data.toList.drop 0 = lkcL_removeSign_0 ++ [] := by decide +kernel
theorem dL_removeSign_0 : decode cL_removeSign 0 = .ok (.aload_n 3, 1) := dec_45 (gB drcL_removeSign_0 0 rfl rfl)
theorem dL_removeSign_1 : decode cL_removeSign 1 = .ok (.aload_n 0, 1) := dec_42 (gB drcL_removeSign_0 1 rfl rfl)
theorem dL_removeSign_2 : decode cL_removeSign 2 = .ok (.iload_n 1, 1) := dec_27 (gB drcL_removeSign_0 2 rfl rfl)
theorem dL_removeSign_3 : decode cL_removeSign 3 = .ok (.iload_n 2, 1) := dec_28 (gB drcL_removeSign_0 3 rfl rfl)
theorem dL_removeSign_4 : decode cL_removeSign 4 = .ok (.invokevirtual 37, 3) := e_182 (x := 0) (y := 37) drcL_removeSign_0 4 rfl rfl
theorem dL_removeSign_7 : decode cL_removeSign 7 = .ok (.i2l, 1) := dec_133 (gB drcL_removeSign_0 7 rfl rfl)
theorem dL_removeSign_8 : decode cL_removeSign 8 = .ok (.putfield 13, 3) := e_181 (x := 0) (y := 13) drcL_removeSign_0 8 rfl rfl
theorem dL_removeSign_11 : decode cL_removeSign 11 = .ok (.goto 7, 3) := e_167 (x := 0) (y := 7) drcL_removeSign_0 11 rfl rfl
theorem dL_removeSign_14 : decode cL_removeSign 14 = .ok (.astore 4, 2) := e_58 (x := 4) drcL_removeSign_0 14 rfl rfl
theorem dL_removeSign_16 : decode cL_removeSign 16 = .ok (.iconst 1, 1) := dec_4 (gB drcL_removeSign_0 16 rfl rfl)
theorem dL_removeSign_17 : decode cL_removeSign 17 = .ok (.ireturn, 1) := dec_172 (gB drcL_removeSign_0 17 rfl rfl)
theorem dL_removeSign_18 : decode cL_removeSign 18 = .ok (.iconst 0, 1) := dec_3 (gB drcL_removeSign_0 18 rfl rfl)
theorem dL_removeSign_19 : decode cL_removeSign 19 = .ok (.ireturn, 1) := dec_172 (gB drcL_removeSign_0 19 rfl rfl)
def lkcL_remove_0 : List UInt8 := [0x19, 0x04, 0x2a, 0x1b, 0x1c, 0x1d, 0xb6, 0x00, 0x28, 0x85, 0xb5, 0x00, 0x0d, 0xa7, 0x00, 0x07, 0x3a, 0x05, 0x04, 0xac, 0x03, 0xac]
def tkcL_remove_0 : List UInt8 := lkcL_remove_0 ++ []
theorem drcL_remove_0 : (cL_remove).data.toList.drop 0 = lkcL_remove_0 ++ [] := by decide +kernel
theorem dL_remove_0 : decode cL_remove 0 = .ok (.aload 4, 2) := e_25 (x := 4) drcL_remove_0 0 rfl rfl
theorem dL_remove_2 : decode cL_remove 2 = .ok (.aload_n 0, 1) := dec_42 (gB drcL_remove_0 2 rfl rfl)
theorem dL_remove_3 : decode cL_remove 3 = .ok (.iload_n 1, 1) := dec_27 (gB drcL_remove_0 3 rfl rfl)
theorem dL_remove_4 : decode cL_remove 4 = .ok (.iload_n 2, 1) := dec_28 (gB drcL_remove_0 4 rfl rfl)
theorem dL_remove_5 : decode cL_remove 5 = .ok (.iload_n 3, 1) := dec_29 (gB drcL_remove_0 5 rfl rfl)
theorem dL_remove_6 : decode cL_remove 6 = .ok (.invokevirtual 40, 3) := e_182 (x := 0) (y := 40) drcL_remove_0 6 rfl rfl
theorem dL_remove_9 : decode cL_remove 9 = .ok (.i2l, 1) := dec_133 (gB drcL_remove_0 9 rfl rfl)
theorem dL_remove_10 : decode cL_remove 10 = .ok (.putfield 13, 3) := e_181 (x := 0) (y := 13) drcL_remove_0 10 rfl rfl
theorem dL_remove_13 : decode cL_remove 13 = .ok (.goto 7, 3) := e_167 (x := 0) (y := 7) drcL_remove_0 13 rfl rfl
theorem dL_remove_16 : decode cL_remove 16 = .ok (.astore 5, 2) := e_58 (x := 5) drcL_remove_0 16 rfl rfl
theorem dL_remove_18 : decode cL_remove 18 = .ok (.iconst 1, 1) := dec_4 (gB drcL_remove_0 18 rfl rfl)
theorem dL_remove_19 : decode cL_remove 19 = .ok (.ireturn, 1) := dec_172 (gB drcL_remove_0 19 rfl rfl)
theorem dL_remove_20 : decode cL_remove 20 = .ok (.iconst 0, 1) := dec_3 (gB drcL_remove_0 20 rfl rfl)
theorem dL_remove_21 : decode cL_remove 21 = .ok (.ireturn, 1) := dec_172 (gB drcL_remove_0 21 rfl rfl)
def lkcL_replace_0 : List UInt8 := [0x19, 0x05, 0x2a, 0x1b, 0x1c, 0x1d, 0x15, 0x04, 0xb6, 0x00, 0x2b, 0x85, 0xb5, 0x00, 0x0d, 0xa7, 0x00, 0x07, 0x3a, 0x06, 0x04, 0xac, 0x03, 0xac]
def tkcL_replace_0 : List UInt8 := lkcL_replace_0 ++ []
theorem drcL_replace_0 : (cL_replace).data.toList.drop 0 = lkcL_replace_0 ++ [] := by decide +kernel
theorem dL_replace_0 : decode cL_replace 0 = .ok (.aload 5, 2) := e_25 (x := 5) drcL_replace_0 0 rfl rfl
theorem dL_replace_2 : decode cL_replace 2 = .ok (.aload_n 0, 1) := dec_42 (gB drcL_replace_0 2 rfl rfl)
theorem dL_replace_3 : decode cL_replace 3 = .ok (.iload_n 1, 1) := dec_27 (gB drcL_replace_0 3 rfl rfl)
theorem dL_replace_4 : decode cL_replace 4 = .ok (.iload_n 2, 1) := dec_28 (gB drcL_replace_0 4 rfl rfl)
theorem dL_replace_5 : decode cL_replace 5 = .ok (.iload_n 3, 1) := dec_29 (gB drcL_replace_0 5 rfl rfl)
theorem dL_replace_6 : decode cL_replace 6 = .ok (.iload 4, 2) := e_21 (x := 4) drcL_replace_0 6 rfl rfl
theorem dL_replace_8 : decode cL_replace 8 = .ok (.invokevirtual 43, 3) := e_182 (x := 0) (y := 43) drcL_replace_0 8 rfl rfl
theorem dL_replace_11 : decode cL_replace 11 = .ok (.i2l, 1) := dec_133 (gB drcL_replace_0 11 rfl rfl)
theorem dL_replace_12 : decode cL_replace 12 = .ok (.putfield 13, 3) := e_181 (x := 0) (y := 13) drcL_replace_0 12 rfl rfl
theorem dL_replace_15 : decode cL_replace 15 = .ok (.goto 7, 3) := e_167 (x := 0) (y := 7) drcL_replace_0 15 rfl rfl
theorem dL_replace_18 : decode cL_replace 18 = .ok (.astore 6, 2) := e_58 (x := 6) drcL_replace_0 18 rfl rfl
theorem dL_replace_20 : decode cL_replace 20 = .ok (.iconst 1, 1) := dec_4 (gB drcL_replace_0 20 rfl rfl)
theorem dL_replace_21 : decode cL_replace 21 = .ok (.ireturn, 1) := dec_172 (gB drcL_replace_0 21 rfl rfl)
theorem dL_replace_22 : decode cL_replace 22 = .ok (.iconst 0, 1) := dec_3 (gB drcL_replace_0 22 rfl rfl)
theorem dL_replace_23 : decode cL_replace 23 = .ok (.ireturn, 1) := dec_172 (gB drcL_replace_0 23 rfl rfl)
def lkcL_cutTo_0 : List UInt8 := [0x2d, 0x2a, 0x1b, 0x1c, 0xb6, 0x00, 0x2f, 0x85, 0xb5, 0x00, 0x0d, 0xa7, 0x00, 0x0b, 0x3a, 0x04, 0x04, 0xac, 0x3a, 0x04, 0x05, 0xac, 0x03, 0xac]
def tkcL_cutTo_0 : List UInt8 := lkcL_cutTo_0 ++ []
theorem drcL_cutTo_0 : (cL_cutTo).data.toList.drop 0 = lkcL_cutTo_0 ++ [] := by decide +kernel
theorem dL_cutTo_0 : decode cL_cutTo 0 = .ok (.aload_n 3, 1) := dec_45 (gB drcL_cutTo_0 0 rfl rfl)
theorem dL_cutTo_1 : decode cL_cutTo 1 = .ok (.aload_n 0, 1) := dec_42 (gB drcL_cutTo_0 1 rfl rfl)
theorem dL_cutTo_2 : decode cL_cutTo 2 = .ok (.iload_n 1, 1) := dec_27 (gB drcL_cutTo_0 2 rfl rfl)
theorem dL_cutTo_3 : decode cL_cutTo 3 = .ok (.iload_n 2, 1) := dec_28 (gB drcL_cutTo_0 3 rfl rfl)
theorem dL_cutTo_4 : decode cL_cutTo 4 = .ok (.invokevirtual 47, 3) := e_182 (x := 0) (y := 47) drcL_cutTo_0 4 rfl rfl
theorem dL_cutTo_7 : decode cL_cutTo 7 = .ok (.i2l, 1) := dec_133 (gB drcL_cutTo_0 7 rfl rfl)
theorem dL_cutTo_8 : decode cL_cutTo 8 = .ok (.putfield 13, 3) := e_181 (x := 0) (y := 13) drcL_cutTo_0 8 rfl rfl
theorem dL_cutTo_11 : decode cL_cutTo 11 = .ok (.goto 11, 3) := e_167 (x := 0) (y := 11) drcL_cutTo_0 11 rfl rfl
theorem dL_cutTo_14 : decode cL_cutTo 14 = .ok (.astore 4, 2) := e_58 (x := 4) drcL_cutTo_0 14 rfl rfl
theorem dL_cutTo_16 : decode cL_cutTo 16 = .ok (.iconst 1, 1) := dec_4 (gB drcL_cutTo_0 16 rfl rfl)
theorem dL_cutTo_17 : decode cL_cutTo 17 = .ok (.ireturn, 1) := dec_172 (gB drcL_cutTo_0 17 rfl rfl)
theorem dL_cutTo_18 : decode cL_cutTo 18 = .ok (.astore 4, 2) := e_58 (x := 4) drcL_cutTo_0 18 rfl rfl
theorem dL_cutTo_20 : decode cL_cutTo 20 = .ok (.iconst 2, 1) := dec_5 (gB drcL_cutTo_0 20 rfl rfl)
theorem dL_cutTo_21 : decode cL_cutTo 21 = .ok (.ireturn, 1) := dec_172 (gB drcL_cutTo_0 21 rfl rfl)
theorem dL_cutTo_22 : decode cL_cutTo 22 = .ok (.iconst 0, 1) := dec_3 (gB drcL_cutTo_0 22 rfl rfl)
theorem dL_cutTo_23 : decode cL_cutTo 23 = .ok (.ireturn, 1) := dec_172 (gB drcL_cutTo_0 23 rfl rfl)
def lkcL_turn_0 : List UInt8 := [0x2c, 0x2a, 0x1b, 0xb6, 0x00, 0x32, 0x85, 0xb5, 0x00, 0x0d, 0xa7, 0x00, 0x06, 0x4e, 0x04, 0xac, 0x03, 0xac]
def tkcL_turn_0 : List UInt8 := lkcL_turn_0 ++ []
theorem drcL_turn_0 : (cL_turn).data.toList.drop 0 = lkcL_turn_0 ++ [] := by decide +kernel
theorem dL_turn_0 : decode cL_turn 0 = .ok (.aload_n 2, 1) := dec_44 (gB drcL_turn_0 0 rfl rfl)
theorem dL_turn_1 : decode cL_turn 1 = .ok (.aload_n 0, 1) := dec_42 (gB drcL_turn_0 1 rfl rfl)
theorem dL_turn_2 : decode cL_turn 2 = .ok (.iload_n 1, 1) := dec_27 (gB drcL_turn_0 2 rfl rfl)
theorem dL_turn_3 : decode cL_turn 3 = .ok (.invokevirtual 50, 3) := e_182 (x := 0) (y := 50) drcL_turn_0 3 rfl rfl
theorem dL_turn_6 : decode cL_turn 6 = .ok (.i2l, 1) := dec_133 (gB drcL_turn_0 6 rfl rfl)
theorem dL_turn_7 : decode cL_turn 7 = .ok (.putfield 13, 3) := e_181 (x := 0) (y := 13) drcL_turn_0 7 rfl rfl
theorem dL_turn_10 : decode cL_turn 10 = .ok (.goto 6, 3) := e_167 (x := 0) (y := 6) drcL_turn_0 10 rfl rfl
theorem dL_turn_13 : decode cL_turn 13 = .ok (.astore_n 3, 1) := dec_78 (gB drcL_turn_0 13 rfl rfl)
theorem dL_turn_14 : decode cL_turn 14 = .ok (.iconst 1, 1) := dec_4 (gB drcL_turn_0 14 rfl rfl)
theorem dL_turn_15 : decode cL_turn 15 = .ok (.ireturn, 1) := dec_172 (gB drcL_turn_0 15 rfl rfl)
theorem dL_turn_16 : decode cL_turn 16 = .ok (.iconst 0, 1) := dec_3 (gB drcL_turn_0 16 rfl rfl)
theorem dL_turn_17 : decode cL_turn 17 = .ok (.ireturn, 1) := dec_172 (gB drcL_turn_0 17 rfl rfl)
def lkcL_exchange_0 : List UInt8 := [0x2c, 0x2a, 0x1b, 0xb6, 0x00, 0x36, 0x85, 0xb5, 0x00, 0x0d, 0xa7, 0x00, 0x06, 0x4e, 0x04, 0xac, 0x03, 0xac]
def tkcL_exchange_0 : List UInt8 := lkcL_exchange_0 ++ []
theorem drcL_exchange_0 : (cL_exchange).data.toList.drop 0 = lkcL_exchange_0 ++ [] := by decide +kernel
theorem dL_exchange_0 : decode cL_exchange 0 = .ok (.aload_n 2, 1) := dec_44 (gB drcL_exchange_0 0 rfl rfl)
theorem dL_exchange_1 : decode cL_exchange 1 = .ok (.aload_n 0, 1) := dec_42 (gB drcL_exchange_0 1 rfl rfl)
theorem dL_exchange_2 : decode cL_exchange 2 = .ok (.iload_n 1, 1) := dec_27 (gB drcL_exchange_0 2 rfl rfl)
theorem dL_exchange_3 : decode cL_exchange 3 = .ok (.invokevirtual 54, 3) := e_182 (x := 0) (y := 54) drcL_exchange_0 3 rfl rfl
theorem dL_exchange_6 : decode cL_exchange 6 = .ok (.i2l, 1) := dec_133 (gB drcL_exchange_0 6 rfl rfl)
theorem dL_exchange_7 : decode cL_exchange 7 = .ok (.putfield 13, 3) := e_181 (x := 0) (y := 13) drcL_exchange_0 7 rfl rfl
theorem dL_exchange_10 : decode cL_exchange 10 = .ok (.goto 6, 3) := e_167 (x := 0) (y := 6) drcL_exchange_0 10 rfl rfl
theorem dL_exchange_13 : decode cL_exchange 13 = .ok (.astore_n 3, 1) := dec_78 (gB drcL_exchange_0 13 rfl rfl)
theorem dL_exchange_14 : decode cL_exchange 14 = .ok (.iconst 1, 1) := dec_4 (gB drcL_exchange_0 14 rfl rfl)
theorem dL_exchange_15 : decode cL_exchange 15 = .ok (.ireturn, 1) := dec_172 (gB drcL_exchange_0 15 rfl rfl)
theorem dL_exchange_16 : decode cL_exchange 16 = .ok (.iconst 0, 1) := dec_3 (gB drcL_exchange_0 16 rfl rfl)
theorem dL_exchange_17 : decode cL_exchange 17 = .ok (.ireturn, 1) := dec_172 (gB drcL_exchange_0 17 rfl rfl)
def lkcL_rotate_0 : List UInt8 := [0x2d, 0x2a, 0x1b, 0x1c, 0xb6, 0x00, 0x39, 0x85, 0xb5, 0x00, 0x0d, 0xa7, 0x00, 0x0b, 0x3a, 0x04, 0x04, 0xac, 0x3a, 0x04, 0x05, 0xac, 0x03, 0xac]
def tkcL_rotate_0 : List UInt8 := lkcL_rotate_0 ++ []
theorem drcL_rotate_0 : (cL_rotate).data.toList.drop 0 = lkcL_rotate_0 ++ [] := by decide +kernel
theorem dL_rotate_0 : decode cL_rotate 0 = .ok (.aload_n 3, 1) := dec_45 (gB drcL_rotate_0 0 rfl rfl)
theorem dL_rotate_1 : decode cL_rotate 1 = .ok (.aload_n 0, 1) := dec_42 (gB drcL_rotate_0 1 rfl rfl)
theorem dL_rotate_2 : decode cL_rotate 2 = .ok (.iload_n 1, 1) := dec_27 (gB drcL_rotate_0 2 rfl rfl)
theorem dL_rotate_3 : decode cL_rotate 3 = .ok (.iload_n 2, 1) := dec_28 (gB drcL_rotate_0 3 rfl rfl)
theorem dL_rotate_4 : decode cL_rotate 4 = .ok (.invokevirtual 57, 3) := e_182 (x := 0) (y := 57) drcL_rotate_0 4 rfl rfl
theorem dL_rotate_7 : decode cL_rotate 7 = .ok (.i2l, 1) := dec_133 (gB drcL_rotate_0 7 rfl rfl)
theorem dL_rotate_8 : decode cL_rotate 8 = .ok (.putfield 13, 3) := e_181 (x := 0) (y := 13) drcL_rotate_0 8 rfl rfl
theorem dL_rotate_11 : decode cL_rotate 11 = .ok (.goto 11, 3) := e_167 (x := 0) (y := 11) drcL_rotate_0 11 rfl rfl
theorem dL_rotate_14 : decode cL_rotate 14 = .ok (.astore 4, 2) := e_58 (x := 4) drcL_rotate_0 14 rfl rfl
theorem dL_rotate_16 : decode cL_rotate 16 = .ok (.iconst 1, 1) := dec_4 (gB drcL_rotate_0 16 rfl rfl)
theorem dL_rotate_17 : decode cL_rotate 17 = .ok (.ireturn, 1) := dec_172 (gB drcL_rotate_0 17 rfl rfl)
theorem dL_rotate_18 : decode cL_rotate 18 = .ok (.astore 4, 2) := e_58 (x := 4) drcL_rotate_0 18 rfl rfl
theorem dL_rotate_20 : decode cL_rotate 20 = .ok (.iconst 2, 1) := dec_5 (gB drcL_rotate_0 20 rfl rfl)
theorem dL_rotate_21 : decode cL_rotate 21 = .ok (.ireturn, 1) := dec_172 (gB drcL_rotate_0 21 rfl rfl)
theorem dL_rotate_22 : decode cL_rotate 22 = .ok (.iconst 0, 1) := dec_3 (gB drcL_rotate_0 22 rfl rfl)
theorem dL_rotate_23 : decode cL_rotate 23 = .ok (.ireturn, 1) := dec_172 (gB drcL_rotate_0 23 rfl rfl)
def lkcL_copy_0 : List UInt8 := [0x2d, 0x2a, 0x1b, 0x1c, 0xb6, 0x00, 0x3c, 0x85, 0xb5, 0x00, 0x0d, 0xa7, 0x00, 0x07, 0x3a, 0x04, 0x04, 0xac, 0x03, 0xac]
def tkcL_copy_0 : List UInt8 := lkcL_copy_0 ++ []
theorem drcL_copy_0 : (cL_copy).data.toList.drop 0 = lkcL_copy_0 ++ [] := by decide +kernel
theorem dL_copy_0 : decode cL_copy 0 = .ok (.aload_n 3, 1) := dec_45 (gB drcL_copy_0 0 rfl rfl)
theorem dL_copy_1 : decode cL_copy 1 = .ok (.aload_n 0, 1) := dec_42 (gB drcL_copy_0 1 rfl rfl)
theorem dL_copy_2 : decode cL_copy 2 = .ok (.iload_n 1, 1) := dec_27 (gB drcL_copy_0 2 rfl rfl)
theorem dL_copy_3 : decode cL_copy 3 = .ok (.iload_n 2, 1) := dec_28 (gB drcL_copy_0 3 rfl rfl)
theorem dL_copy_4 : decode cL_copy 4 = .ok (.invokevirtual 60, 3) := e_182 (x := 0) (y := 60) drcL_copy_0 4 rfl rfl
theorem dL_copy_7 : decode cL_copy 7 = .ok (.i2l, 1) := dec_133 (gB drcL_copy_0 7 rfl rfl)
theorem dL_copy_8 : decode cL_copy 8 = .ok (.putfield 13, 3) := e_181 (x := 0) (y := 13) drcL_copy_0 8 rfl rfl
theorem dL_copy_11 : decode cL_copy 11 = .ok (.goto 7, 3) := e_167 (x := 0) (y := 7) drcL_copy_0 11 rfl rfl
theorem dL_copy_14 : decode cL_copy 14 = .ok (.astore 4, 2) := e_58 (x := 4) drcL_copy_0 14 rfl rfl
theorem dL_copy_16 : decode cL_copy 16 = .ok (.iconst 1, 1) := dec_4 (gB drcL_copy_0 16 rfl rfl)
theorem dL_copy_17 : decode cL_copy 17 = .ok (.ireturn, 1) := dec_172 (gB drcL_copy_0 17 rfl rfl)
theorem dL_copy_18 : decode cL_copy 18 = .ok (.iconst 0, 1) := dec_3 (gB drcL_copy_0 18 rfl rfl)
theorem dL_copy_19 : decode cL_copy 19 = .ok (.ireturn, 1) := dec_172 (gB drcL_copy_0 19 rfl rfl)
def lkcL_apply_0 : List UInt8 := [0x19, 0x04, 0x2a, 0x1b, 0x1c, 0x1d, 0xb6, 0x00, 0x3f, 0x85, 0xb5, 0x00, 0x0d, 0xa7, 0x00, 0x0b, 0x3a, 0x05, 0x04, 0xac, 0x3a, 0x05, 0x05, 0xac, 0x03, 0xac]
def tkcL_apply_0 : List UInt8 := lkcL_apply_0 ++ []
theorem drcL_apply_0 : (cL_apply).data.toList.drop 0 = lkcL_apply_0 ++ [] := by decide +kernel
theorem dL_apply_0 : decode cL_apply 0 = .ok (.aload 4, 2) := e_25 (x := 4) drcL_apply_0 0 rfl rfl
theorem dL_apply_2 : decode cL_apply 2 = .ok (.aload_n 0, 1) := dec_42 (gB drcL_apply_0 2 rfl rfl)
theorem dL_apply_3 : decode cL_apply 3 = .ok (.iload_n 1, 1) := dec_27 (gB drcL_apply_0 3 rfl rfl)
theorem dL_apply_4 : decode cL_apply 4 = .ok (.iload_n 2, 1) := dec_28 (gB drcL_apply_0 4 rfl rfl)
theorem dL_apply_5 : decode cL_apply 5 = .ok (.iload_n 3, 1) := dec_29 (gB drcL_apply_0 5 rfl rfl)
theorem dL_apply_6 : decode cL_apply 6 = .ok (.invokevirtual 63, 3) := e_182 (x := 0) (y := 63) drcL_apply_0 6 rfl rfl
theorem dL_apply_9 : decode cL_apply 9 = .ok (.i2l, 1) := dec_133 (gB drcL_apply_0 9 rfl rfl)
theorem dL_apply_10 : decode cL_apply 10 = .ok (.putfield 13, 3) := e_181 (x := 0) (y := 13) drcL_apply_0 10 rfl rfl
theorem dL_apply_13 : decode cL_apply 13 = .ok (.goto 11, 3) := e_167 (x := 0) (y := 11) drcL_apply_0 13 rfl rfl
theorem dL_apply_16 : decode cL_apply 16 = .ok (.astore 5, 2) := e_58 (x := 5) drcL_apply_0 16 rfl rfl
theorem dL_apply_18 : decode cL_apply 18 = .ok (.iconst 1, 1) := dec_4 (gB drcL_apply_0 18 rfl rfl)
theorem dL_apply_19 : decode cL_apply 19 = .ok (.ireturn, 1) := dec_172 (gB drcL_apply_0 19 rfl rfl)
theorem dL_apply_20 : decode cL_apply 20 = .ok (.astore 5, 2) := e_58 (x := 5) drcL_apply_0 20 rfl rfl
theorem dL_apply_22 : decode cL_apply 22 = .ok (.iconst 2, 1) := dec_5 (gB drcL_apply_0 22 rfl rfl)
theorem dL_apply_23 : decode cL_apply 23 = .ok (.ireturn, 1) := dec_172 (gB drcL_apply_0 23 rfl rfl)
theorem dL_apply_24 : decode cL_apply 24 = .ok (.iconst 0, 1) := dec_3 (gB drcL_apply_0 24 rfl rfl)
theorem dL_apply_25 : decode cL_apply 25 = .ok (.ireturn, 1) := dec_172 (gB drcL_apply_0 25 rfl rfl)
def lkcL_undo_0 : List UInt8 := [0x19, 0x04, 0x2a, 0x1b, 0x1c, 0x1d, 0xb6, 0x00, 0x42, 0x85, 0xb5, 0x00, 0x0d, 0xa7, 0x00, 0x0f, 0x3a, 0x05, 0x04, 0xac, 0x3a, 0x05, 0x05, 0xac, 0x3a, 0x05, 0x06, 0xac, 0x03, 0xac]
def tkcL_undo_0 : List UInt8 := lkcL_undo_0 ++ []
theorem drcL_undo_0 : (cL_undo).data.toList.drop 0 = lkcL_undo_0 ++ [] := by decide +kernel
theorem dL_undo_0 : decode cL_undo 0 = .ok (.aload 4, 2) := e_25 (x := 4) drcL_undo_0 0 rfl rfl
theorem dL_undo_2 : decode cL_undo 2 = .ok (.aload_n 0, 1) := dec_42 (gB drcL_undo_0 2 rfl rfl)
theorem dL_undo_3 : decode cL_undo 3 = .ok (.iload_n 1, 1) := dec_27 (gB drcL_undo_0 3 rfl rfl)
theorem dL_undo_4 : decode cL_undo 4 = .ok (.iload_n 2, 1) := dec_28 (gB drcL_undo_0 4 rfl rfl)
theorem dL_undo_5 : decode cL_undo 5 = .ok (.iload_n 3, 1) := dec_29 (gB drcL_undo_0 5 rfl rfl)
theorem dL_undo_6 : decode cL_undo 6 = .ok (.invokevirtual 66, 3) := e_182 (x := 0) (y := 66) drcL_undo_0 6 rfl rfl
theorem dL_undo_9 : decode cL_undo 9 = .ok (.i2l, 1) := dec_133 (gB drcL_undo_0 9 rfl rfl)
theorem dL_undo_10 : decode cL_undo 10 = .ok (.putfield 13, 3) := e_181 (x := 0) (y := 13) drcL_undo_0 10 rfl rfl
theorem dL_undo_13 : decode cL_undo 13 = .ok (.goto 15, 3) := e_167 (x := 0) (y := 15) drcL_undo_0 13 rfl rfl
theorem dL_undo_16 : decode cL_undo 16 = .ok (.astore 5, 2) := e_58 (x := 5) drcL_undo_0 16 rfl rfl
theorem dL_undo_18 : decode cL_undo 18 = .ok (.iconst 1, 1) := dec_4 (gB drcL_undo_0 18 rfl rfl)
theorem dL_undo_19 : decode cL_undo 19 = .ok (.ireturn, 1) := dec_172 (gB drcL_undo_0 19 rfl rfl)
theorem dL_undo_20 : decode cL_undo 20 = .ok (.astore 5, 2) := e_58 (x := 5) drcL_undo_0 20 rfl rfl
theorem dL_undo_22 : decode cL_undo 22 = .ok (.iconst 2, 1) := dec_5 (gB drcL_undo_0 22 rfl rfl)
theorem dL_undo_23 : decode cL_undo 23 = .ok (.ireturn, 1) := dec_172 (gB drcL_undo_0 23 rfl rfl)
theorem dL_undo_24 : decode cL_undo 24 = .ok (.astore 5, 2) := e_58 (x := 5) drcL_undo_0 24 rfl rfl
theorem dL_undo_26 : decode cL_undo 26 = .ok (.iconst 3, 1) := dec_6 (gB drcL_undo_0 26 rfl rfl)
theorem dL_undo_27 : decode cL_undo 27 = .ok (.ireturn, 1) := dec_172 (gB drcL_undo_0 27 rfl rfl)
theorem dL_undo_28 : decode cL_undo 28 = .ok (.iconst 0, 1) := dec_3 (gB drcL_undo_0 28 rfl rfl)
theorem dL_undo_29 : decode cL_undo 29 = .ok (.ireturn, 1) := dec_172 (gB drcL_undo_0 29 rfl rfl)
def lkcL_lay_0 : List UInt8 := [0x19, 0x04, 0x2a, 0x1b, 0x1c, 0x1d, 0xb6, 0x00, 0x47, 0x85, 0xb5, 0x00, 0x0d, 0xa7, 0x00, 0x0b, 0x3a, 0x05, 0x04, 0xac, 0x3a, 0x05, 0x05, 0xac, 0x03, 0xac]
def tkcL_lay_0 : List UInt8 := lkcL_lay_0 ++ []
theorem drcL_lay_0 : (cL_lay).data.toList.drop 0 = lkcL_lay_0 ++ [] := by decide +kernel
theorem dL_lay_0 : decode cL_lay 0 = .ok (.aload 4, 2) := e_25 (x := 4) drcL_lay_0 0 rfl rfl
theorem dL_lay_2 : decode cL_lay 2 = .ok (.aload_n 0, 1) := dec_42 (gB drcL_lay_0 2 rfl rfl)
theorem dL_lay_3 : decode cL_lay 3 = .ok (.iload_n 1, 1) := dec_27 (gB drcL_lay_0 3 rfl rfl)
theorem dL_lay_4 : decode cL_lay 4 = .ok (.iload_n 2, 1) := dec_28 (gB drcL_lay_0 4 rfl rfl)
theorem dL_lay_5 : decode cL_lay 5 = .ok (.iload_n 3, 1) := dec_29 (gB drcL_lay_0 5 rfl rfl)
theorem dL_lay_6 : decode cL_lay 6 = .ok (.invokevirtual 71, 3) := e_182 (x := 0) (y := 71) drcL_lay_0 6 rfl rfl
theorem dL_lay_9 : decode cL_lay 9 = .ok (.i2l, 1) := dec_133 (gB drcL_lay_0 9 rfl rfl)
theorem dL_lay_10 : decode cL_lay 10 = .ok (.putfield 13, 3) := e_181 (x := 0) (y := 13) drcL_lay_0 10 rfl rfl
theorem dL_lay_13 : decode cL_lay 13 = .ok (.goto 11, 3) := e_167 (x := 0) (y := 11) drcL_lay_0 13 rfl rfl
theorem dL_lay_16 : decode cL_lay 16 = .ok (.astore 5, 2) := e_58 (x := 5) drcL_lay_0 16 rfl rfl
theorem dL_lay_18 : decode cL_lay 18 = .ok (.iconst 1, 1) := dec_4 (gB drcL_lay_0 18 rfl rfl)
theorem dL_lay_19 : decode cL_lay 19 = .ok (.ireturn, 1) := dec_172 (gB drcL_lay_0 19 rfl rfl)
theorem dL_lay_20 : decode cL_lay 20 = .ok (.astore 5, 2) := e_58 (x := 5) drcL_lay_0 20 rfl rfl
theorem dL_lay_22 : decode cL_lay 22 = .ok (.iconst 2, 1) := dec_5 (gB drcL_lay_0 22 rfl rfl)
theorem dL_lay_23 : decode cL_lay 23 = .ok (.ireturn, 1) := dec_172 (gB drcL_lay_0 23 rfl rfl)
theorem dL_lay_24 : decode cL_lay 24 = .ok (.iconst 0, 1) := dec_3 (gB drcL_lay_0 24 rfl rfl)
theorem dL_lay_25 : decode cL_lay 25 = .ok (.ireturn, 1) := dec_172 (gB drcL_lay_0 25 rfl rfl)
def lkcL_twos_0 : List UInt8 := [0x19, 0x04, 0x2a, 0x1b, 0x1c, 0x1d, 0xb6, 0x00, 0x4a, 0x85, 0xb5, 0x00, 0x0d, 0xa7, 0x00, 0x0b, 0x3a, 0x05, 0x04, 0xac, 0x3a, 0x05, 0x05, 0xac, 0x03, 0xac]
def tkcL_twos_0 : List UInt8 := lkcL_twos_0 ++ []
theorem drcL_twos_0 : (cL_twos).data.toList.drop 0 = lkcL_twos_0 ++ [] := by decide +kernel
theorem dL_twos_0 : decode cL_twos 0 = .ok (.aload 4, 2) := e_25 (x := 4) drcL_twos_0 0 rfl rfl
theorem dL_twos_2 : decode cL_twos 2 = .ok (.aload_n 0, 1) := dec_42 (gB drcL_twos_0 2 rfl rfl)
theorem dL_twos_3 : decode cL_twos 3 = .ok (.iload_n 1, 1) := dec_27 (gB drcL_twos_0 3 rfl rfl)
theorem dL_twos_4 : decode cL_twos 4 = .ok (.iload_n 2, 1) := dec_28 (gB drcL_twos_0 4 rfl rfl)
theorem dL_twos_5 : decode cL_twos 5 = .ok (.iload_n 3, 1) := dec_29 (gB drcL_twos_0 5 rfl rfl)
theorem dL_twos_6 : decode cL_twos 6 = .ok (.invokevirtual 74, 3) := e_182 (x := 0) (y := 74) drcL_twos_0 6 rfl rfl
theorem dL_twos_9 : decode cL_twos 9 = .ok (.i2l, 1) := dec_133 (gB drcL_twos_0 9 rfl rfl)
theorem dL_twos_10 : decode cL_twos 10 = .ok (.putfield 13, 3) := e_181 (x := 0) (y := 13) drcL_twos_0 10 rfl rfl
theorem dL_twos_13 : decode cL_twos 13 = .ok (.goto 11, 3) := e_167 (x := 0) (y := 11) drcL_twos_0 13 rfl rfl
theorem dL_twos_16 : decode cL_twos 16 = .ok (.astore 5, 2) := e_58 (x := 5) drcL_twos_0 16 rfl rfl
theorem dL_twos_18 : decode cL_twos 18 = .ok (.iconst 1, 1) := dec_4 (gB drcL_twos_0 18 rfl rfl)
theorem dL_twos_19 : decode cL_twos 19 = .ok (.ireturn, 1) := dec_172 (gB drcL_twos_0 19 rfl rfl)
theorem dL_twos_20 : decode cL_twos 20 = .ok (.astore 5, 2) := e_58 (x := 5) drcL_twos_0 20 rfl rfl
theorem dL_twos_22 : decode cL_twos 22 = .ok (.iconst 2, 1) := dec_5 (gB drcL_twos_0 22 rfl rfl)
theorem dL_twos_23 : decode cL_twos 23 = .ok (.ireturn, 1) := dec_172 (gB drcL_twos_0 23 rfl rfl)
theorem dL_twos_24 : decode cL_twos 24 = .ok (.iconst 0, 1) := dec_3 (gB drcL_twos_0 24 rfl rfl)
theorem dL_twos_25 : decode cL_twos 25 = .ok (.ireturn, 1) := dec_172 (gB drcL_twos_0 25 rfl rfl)
def lkcL_line_0 : List UInt8 := [0x19, 0x05, 0x2a, 0x1b, 0x1c, 0x1d, 0x15, 0x04, 0xb6, 0x00, 0x4d, 0x85, 0xb5, 0x00, 0x0d, 0xa7, 0x00, 0x0b, 0x3a, 0x06, 0x04, 0xac, 0x3a, 0x06, 0x05, 0xac, 0x03, 0xac]
def tkcL_line_0 : List UInt8 := lkcL_line_0 ++ []
theorem drcL_line_0 : (cL_line).data.toList.drop 0 = lkcL_line_0 ++ [] := by decide +kernel
theorem dL_line_0 : decode cL_line 0 = .ok (.aload 5, 2) := e_25 (x := 5) drcL_line_0 0 rfl rfl
theorem dL_line_2 : decode cL_line 2 = .ok (.aload_n 0, 1) := dec_42 (gB drcL_line_0 2 rfl rfl)
theorem dL_line_3 : decode cL_line 3 = .ok (.iload_n 1, 1) := dec_27 (gB drcL_line_0 3 rfl rfl)
theorem dL_line_4 : decode cL_line 4 = .ok (.iload_n 2, 1) := dec_28 (gB drcL_line_0 4 rfl rfl)
theorem dL_line_5 : decode cL_line 5 = .ok (.iload_n 3, 1) := dec_29 (gB drcL_line_0 5 rfl rfl)
theorem dL_line_6 : decode cL_line 6 = .ok (.iload 4, 2) := e_21 (x := 4) drcL_line_0 6 rfl rfl
theorem dL_line_8 : decode cL_line 8 = .ok (.invokevirtual 77, 3) := e_182 (x := 0) (y := 77) drcL_line_0 8 rfl rfl
theorem dL_line_11 : decode cL_line 11 = .ok (.i2l, 1) := dec_133 (gB drcL_line_0 11 rfl rfl)
theorem dL_line_12 : decode cL_line 12 = .ok (.putfield 13, 3) := e_181 (x := 0) (y := 13) drcL_line_0 12 rfl rfl
theorem dL_line_15 : decode cL_line 15 = .ok (.goto 11, 3) := e_167 (x := 0) (y := 11) drcL_line_0 15 rfl rfl
theorem dL_line_18 : decode cL_line 18 = .ok (.astore 6, 2) := e_58 (x := 6) drcL_line_0 18 rfl rfl
theorem dL_line_20 : decode cL_line 20 = .ok (.iconst 1, 1) := dec_4 (gB drcL_line_0 20 rfl rfl)
theorem dL_line_21 : decode cL_line 21 = .ok (.ireturn, 1) := dec_172 (gB drcL_line_0 21 rfl rfl)
theorem dL_line_22 : decode cL_line 22 = .ok (.astore 6, 2) := e_58 (x := 6) drcL_line_0 22 rfl rfl
theorem dL_line_24 : decode cL_line 24 = .ok (.iconst 2, 1) := dec_5 (gB drcL_line_0 24 rfl rfl)
theorem dL_line_25 : decode cL_line 25 = .ok (.ireturn, 1) := dec_172 (gB drcL_line_0 25 rfl rfl)
theorem dL_line_26 : decode cL_line 26 = .ok (.iconst 0, 1) := dec_3 (gB drcL_line_0 26 rfl rfl)
theorem dL_line_27 : decode cL_line 27 = .ok (.ireturn, 1) := dec_172 (gB drcL_line_0 27 rfl rfl)
def lkcL_grow_0 : List UInt8 := [0x2d, 0x2a, 0x1b, 0x1c, 0xb6, 0x00, 0x50, 0x85, 0xb5, 0x00, 0x0d, 0xa7, 0x00, 0x0b, 0x3a, 0x04, 0x04, 0xac, 0x3a, 0x04, 0x05, 0xac, 0x03, 0xac]
def tkcL_grow_0 : List UInt8 := lkcL_grow_0 ++ []
theorem drcL_grow_0 : (cL_grow).data.toList.drop 0 = lkcL_grow_0 ++ [] := by decide +kernel
theorem dL_grow_0 : decode cL_grow 0 = .ok (.aload_n 3, 1) := dec_45 (gB drcL_grow_0 0 rfl rfl)
theorem dL_grow_1 : decode cL_grow 1 = .ok (.aload_n 0, 1) := dec_42 (gB drcL_grow_0 1 rfl rfl)
theorem dL_grow_2 : decode cL_grow 2 = .ok (.iload_n 1, 1) := dec_27 (gB drcL_grow_0 2 rfl rfl)
theorem dL_grow_3 : decode cL_grow 3 = .ok (.iload_n 2, 1) := dec_28 (gB drcL_grow_0 3 rfl rfl)
theorem dL_grow_4 : decode cL_grow 4 = .ok (.invokevirtual 80, 3) := e_182 (x := 0) (y := 80) drcL_grow_0 4 rfl rfl
theorem dL_grow_7 : decode cL_grow 7 = .ok (.i2l, 1) := dec_133 (gB drcL_grow_0 7 rfl rfl)
theorem dL_grow_8 : decode cL_grow 8 = .ok (.putfield 13, 3) := e_181 (x := 0) (y := 13) drcL_grow_0 8 rfl rfl
theorem dL_grow_11 : decode cL_grow 11 = .ok (.goto 11, 3) := e_167 (x := 0) (y := 11) drcL_grow_0 11 rfl rfl
theorem dL_grow_14 : decode cL_grow 14 = .ok (.astore 4, 2) := e_58 (x := 4) drcL_grow_0 14 rfl rfl
theorem dL_grow_16 : decode cL_grow 16 = .ok (.iconst 1, 1) := dec_4 (gB drcL_grow_0 16 rfl rfl)
theorem dL_grow_17 : decode cL_grow 17 = .ok (.ireturn, 1) := dec_172 (gB drcL_grow_0 17 rfl rfl)
theorem dL_grow_18 : decode cL_grow 18 = .ok (.astore 4, 2) := e_58 (x := 4) drcL_grow_0 18 rfl rfl
theorem dL_grow_20 : decode cL_grow 20 = .ok (.iconst 2, 1) := dec_5 (gB drcL_grow_0 20 rfl rfl)
theorem dL_grow_21 : decode cL_grow 21 = .ok (.ireturn, 1) := dec_172 (gB drcL_grow_0 21 rfl rfl)
theorem dL_grow_22 : decode cL_grow 22 = .ok (.iconst 0, 1) := dec_3 (gB drcL_grow_0 22 rfl rfl)
theorem dL_grow_23 : decode cL_grow 23 = .ok (.ireturn, 1) := dec_172 (gB drcL_grow_0 23 rfl rfl)
def lkcL_shrink_0 : List UInt8 := [0x2c, 0x2a, 0x1b, 0xb6, 0x00, 0x53, 0x85, 0xb5, 0x00, 0x0d, 0xa7, 0x00, 0x09, 0x4e, 0x04, 0xac, 0x4e, 0x05, 0xac, 0x03, 0xac]
def tkcL_shrink_0 : List UInt8 := lkcL_shrink_0 ++ []
theorem drcL_shrink_0 : (cL_shrink).data.toList.drop 0 = lkcL_shrink_0 ++ [] := by decide +kernel
theorem dL_shrink_0 : decode cL_shrink 0 = .ok (.aload_n 2, 1) := dec_44 (gB drcL_shrink_0 0 rfl rfl)
theorem dL_shrink_1 : decode cL_shrink 1 = .ok (.aload_n 0, 1) := dec_42 (gB drcL_shrink_0 1 rfl rfl)
theorem dL_shrink_2 : decode cL_shrink 2 = .ok (.iload_n 1, 1) := dec_27 (gB drcL_shrink_0 2 rfl rfl)
theorem dL_shrink_3 : decode cL_shrink 3 = .ok (.invokevirtual 83, 3) := e_182 (x := 0) (y := 83) drcL_shrink_0 3 rfl rfl
theorem dL_shrink_6 : decode cL_shrink 6 = .ok (.i2l, 1) := dec_133 (gB drcL_shrink_0 6 rfl rfl)
theorem dL_shrink_7 : decode cL_shrink 7 = .ok (.putfield 13, 3) := e_181 (x := 0) (y := 13) drcL_shrink_0 7 rfl rfl
theorem dL_shrink_10 : decode cL_shrink 10 = .ok (.goto 9, 3) := e_167 (x := 0) (y := 9) drcL_shrink_0 10 rfl rfl
theorem dL_shrink_13 : decode cL_shrink 13 = .ok (.astore_n 3, 1) := dec_78 (gB drcL_shrink_0 13 rfl rfl)
theorem dL_shrink_14 : decode cL_shrink 14 = .ok (.iconst 1, 1) := dec_4 (gB drcL_shrink_0 14 rfl rfl)
theorem dL_shrink_15 : decode cL_shrink 15 = .ok (.ireturn, 1) := dec_172 (gB drcL_shrink_0 15 rfl rfl)
theorem dL_shrink_16 : decode cL_shrink 16 = .ok (.astore_n 3, 1) := dec_78 (gB drcL_shrink_0 16 rfl rfl)
theorem dL_shrink_17 : decode cL_shrink 17 = .ok (.iconst 2, 1) := dec_5 (gB drcL_shrink_0 17 rfl rfl)
theorem dL_shrink_18 : decode cL_shrink 18 = .ok (.ireturn, 1) := dec_172 (gB drcL_shrink_0 18 rfl rfl)
theorem dL_shrink_19 : decode cL_shrink 19 = .ok (.iconst 0, 1) := dec_3 (gB drcL_shrink_0 19 rfl rfl)
theorem dL_shrink_20 : decode cL_shrink 20 = .ok (.ireturn, 1) := dec_172 (gB drcL_shrink_0 20 rfl rfl)
def lkcL_fresh_0 : List UInt8 := [0x2c, 0x2a, 0x1b, 0xb6, 0x00, 0x56, 0x85, 0xb5, 0x00, 0x0d, 0xa7, 0x00, 0x06, 0x4e, 0x04, 0xac, 0x03, 0xac]
def tkcL_fresh_0 : List UInt8 := lkcL_fresh_0 ++ []
theorem drcL_fresh_0 : (cL_fresh).data.toList.drop 0 = lkcL_fresh_0 ++ [] := by decide +kernel
theorem dL_fresh_0 : decode cL_fresh 0 = .ok (.aload_n 2, 1) := dec_44 (gB drcL_fresh_0 0 rfl rfl)
theorem dL_fresh_1 : decode cL_fresh 1 = .ok (.aload_n 0, 1) := dec_42 (gB drcL_fresh_0 1 rfl rfl)
theorem dL_fresh_2 : decode cL_fresh 2 = .ok (.iload_n 1, 1) := dec_27 (gB drcL_fresh_0 2 rfl rfl)
theorem dL_fresh_3 : decode cL_fresh 3 = .ok (.invokevirtual 86, 3) := e_182 (x := 0) (y := 86) drcL_fresh_0 3 rfl rfl
theorem dL_fresh_6 : decode cL_fresh 6 = .ok (.i2l, 1) := dec_133 (gB drcL_fresh_0 6 rfl rfl)
theorem dL_fresh_7 : decode cL_fresh 7 = .ok (.putfield 13, 3) := e_181 (x := 0) (y := 13) drcL_fresh_0 7 rfl rfl
theorem dL_fresh_10 : decode cL_fresh 10 = .ok (.goto 6, 3) := e_167 (x := 0) (y := 6) drcL_fresh_0 10 rfl rfl
theorem dL_fresh_13 : decode cL_fresh 13 = .ok (.astore_n 3, 1) := dec_78 (gB drcL_fresh_0 13 rfl rfl)
theorem dL_fresh_14 : decode cL_fresh 14 = .ok (.iconst 1, 1) := dec_4 (gB drcL_fresh_0 14 rfl rfl)
theorem dL_fresh_15 : decode cL_fresh 15 = .ok (.ireturn, 1) := dec_172 (gB drcL_fresh_0 15 rfl rfl)
theorem dL_fresh_16 : decode cL_fresh 16 = .ok (.iconst 0, 1) := dec_3 (gB drcL_fresh_0 16 rfl rfl)
theorem dL_fresh_17 : decode cL_fresh 17 = .ok (.ireturn, 1) := dec_172 (gB drcL_fresh_0 17 rfl rfl)
def lkcL_length_0 : List UInt8 := [0x2c, 0x2a, 0x1b, 0xb6, 0x00, 0x59, 0x85, 0xb5, 0x00, 0x0d, 0xa7, 0x00, 0x06, 0x4e, 0x04, 0xac, 0x03, 0xac]
def tkcL_length_0 : List UInt8 := lkcL_length_0 ++ []
theorem drcL_length_0 : (cL_length).data.toList.drop 0 = lkcL_length_0 ++ [] := by decide +kernel
theorem dL_length_0 : decode cL_length 0 = .ok (.aload_n 2, 1) := dec_44 (gB drcL_length_0 0 rfl rfl)
theorem dL_length_1 : decode cL_length 1 = .ok (.aload_n 0, 1) := dec_42 (gB drcL_length_0 1 rfl rfl)
theorem dL_length_2 : decode cL_length 2 = .ok (.iload_n 1, 1) := dec_27 (gB drcL_length_0 2 rfl rfl)
theorem dL_length_3 : decode cL_length 3 = .ok (.invokevirtual 89, 3) := e_182 (x := 0) (y := 89) drcL_length_0 3 rfl rfl
theorem dL_length_6 : decode cL_length 6 = .ok (.i2l, 1) := dec_133 (gB drcL_length_0 6 rfl rfl)
theorem dL_length_7 : decode cL_length 7 = .ok (.putfield 13, 3) := e_181 (x := 0) (y := 13) drcL_length_0 7 rfl rfl
theorem dL_length_10 : decode cL_length 10 = .ok (.goto 6, 3) := e_167 (x := 0) (y := 6) drcL_length_0 10 rfl rfl
theorem dL_length_13 : decode cL_length 13 = .ok (.astore_n 3, 1) := dec_78 (gB drcL_length_0 13 rfl rfl)
theorem dL_length_14 : decode cL_length 14 = .ok (.iconst 1, 1) := dec_4 (gB drcL_length_0 14 rfl rfl)
theorem dL_length_15 : decode cL_length 15 = .ok (.ireturn, 1) := dec_172 (gB drcL_length_0 15 rfl rfl)
theorem dL_length_16 : decode cL_length 16 = .ok (.iconst 0, 1) := dec_3 (gB drcL_length_0 16 rfl rfl)
theorem dL_length_17 : decode cL_length 17 = .ok (.ireturn, 1) := dec_172 (gB drcL_length_0 17 rfl rfl)
def lkcL_isB_0 : List UInt8 := [0x2d, 0x2a, 0x1b, 0x1c, 0xb6, 0x00, 0x5c, 0x99, 0x00, 0x07, 0x0a, 0xa7, 0x00, 0x04, 0x09, 0xb5, 0x00, 0x0d, 0xa7, 0x00, 0x07, 0x3a, 0x04, 0x04, 0xac, 0x03, 0xac]
def tkcL_isB_0 : List UInt8 := lkcL_isB_0 ++ []
theorem drcL_isB_0 : (cL_isB).data.toList.drop 0 = lkcL_isB_0 ++ [] := by decide +kernel
theorem dL_isB_0 : decode cL_isB 0 = .ok (.aload_n 3, 1) := dec_45 (gB drcL_isB_0 0 rfl rfl)
theorem dL_isB_1 : decode cL_isB 1 = .ok (.aload_n 0, 1) := dec_42 (gB drcL_isB_0 1 rfl rfl)
theorem dL_isB_2 : decode cL_isB 2 = .ok (.iload_n 1, 1) := dec_27 (gB drcL_isB_0 2 rfl rfl)
theorem dL_isB_3 : decode cL_isB 3 = .ok (.iload_n 2, 1) := dec_28 (gB drcL_isB_0 3 rfl rfl)
theorem dL_isB_4 : decode cL_isB 4 = .ok (.invokevirtual 92, 3) := e_182 (x := 0) (y := 92) drcL_isB_0 4 rfl rfl
theorem dL_isB_7 : decode cL_isB 7 = .ok (.ifCond .eq 7, 3) := e_153 (x := 0) (y := 7) drcL_isB_0 7 rfl rfl
theorem dL_isB_10 : decode cL_isB 10 = .ok (.lconst 1, 1) := dec_10 (gB drcL_isB_0 10 rfl rfl)
theorem dL_isB_11 : decode cL_isB 11 = .ok (.goto 4, 3) := e_167 (x := 0) (y := 4) drcL_isB_0 11 rfl rfl
theorem dL_isB_14 : decode cL_isB 14 = .ok (.lconst 0, 1) := dec_9 (gB drcL_isB_0 14 rfl rfl)
theorem dL_isB_15 : decode cL_isB 15 = .ok (.putfield 13, 3) := e_181 (x := 0) (y := 13) drcL_isB_0 15 rfl rfl
theorem dL_isB_18 : decode cL_isB 18 = .ok (.goto 7, 3) := e_167 (x := 0) (y := 7) drcL_isB_0 18 rfl rfl
theorem dL_isB_21 : decode cL_isB 21 = .ok (.astore 4, 2) := e_58 (x := 4) drcL_isB_0 21 rfl rfl
theorem dL_isB_23 : decode cL_isB 23 = .ok (.iconst 1, 1) := dec_4 (gB drcL_isB_0 23 rfl rfl)
theorem dL_isB_24 : decode cL_isB 24 = .ok (.ireturn, 1) := dec_172 (gB drcL_isB_0 24 rfl rfl)
theorem dL_isB_25 : decode cL_isB 25 = .ok (.iconst 0, 1) := dec_3 (gB drcL_isB_0 25 rfl rfl)
theorem dL_isB_26 : decode cL_isB 26 = .ok (.ireturn, 1) := dec_172 (gB drcL_isB_0 26 rfl rfl)
def lkcL_text_0 : List UInt8 := [0x2c, 0x2a, 0x1b, 0xb6, 0x00, 0x60, 0xb5, 0x00, 0x64, 0xa7, 0x00, 0x06, 0x4e, 0x04, 0xac, 0x03, 0xac]
def tkcL_text_0 : List UInt8 := lkcL_text_0 ++ []
theorem drcL_text_0 : (cL_text).data.toList.drop 0 = lkcL_text_0 ++ [] := by decide +kernel
theorem dL_text_0 : decode cL_text 0 = .ok (.aload_n 2, 1) := dec_44 (gB drcL_text_0 0 rfl rfl)
theorem dL_text_1 : decode cL_text 1 = .ok (.aload_n 0, 1) := dec_42 (gB drcL_text_0 1 rfl rfl)
theorem dL_text_2 : decode cL_text 2 = .ok (.iload_n 1, 1) := dec_27 (gB drcL_text_0 2 rfl rfl)
theorem dL_text_3 : decode cL_text 3 = .ok (.invokevirtual 96, 3) := e_182 (x := 0) (y := 96) drcL_text_0 3 rfl rfl
theorem dL_text_6 : decode cL_text 6 = .ok (.putfield 100, 3) := e_181 (x := 0) (y := 100) drcL_text_0 6 rfl rfl
theorem dL_text_9 : decode cL_text 9 = .ok (.goto 6, 3) := e_167 (x := 0) (y := 6) drcL_text_0 9 rfl rfl
theorem dL_text_12 : decode cL_text 12 = .ok (.astore_n 3, 1) := dec_78 (gB drcL_text_0 12 rfl rfl)
theorem dL_text_13 : decode cL_text 13 = .ok (.iconst 1, 1) := dec_4 (gB drcL_text_0 13 rfl rfl)
theorem dL_text_14 : decode cL_text 14 = .ok (.ireturn, 1) := dec_172 (gB drcL_text_0 14 rfl rfl)
theorem dL_text_15 : decode cL_text 15 = .ok (.iconst 0, 1) := dec_3 (gB drcL_text_0 15 rfl rfl)
theorem dL_text_16 : decode cL_text 16 = .ok (.ireturn, 1) := dec_172 (gB drcL_text_0 16 rfl rfl)
def lkcL_count_0 : List UInt8 := [0x2d, 0x2a, 0x1b, 0x1c, 0xb6, 0x00, 0x68, 0x85, 0xb5, 0x00, 0x0d, 0xa7, 0x00, 0x07, 0x3a, 0x04, 0x04, 0xac, 0x03, 0xac]
def tkcL_count_0 : List UInt8 := lkcL_count_0 ++ []
theorem drcL_count_0 : (cL_count).data.toList.drop 0 = lkcL_count_0 ++ [] := by decide +kernel
theorem dL_count_0 : decode cL_count 0 = .ok (.aload_n 3, 1) := dec_45 (gB drcL_count_0 0 rfl rfl)
theorem dL_count_1 : decode cL_count 1 = .ok (.aload_n 0, 1) := dec_42 (gB drcL_count_0 1 rfl rfl)
theorem dL_count_2 : decode cL_count 2 = .ok (.iload_n 1, 1) := dec_27 (gB drcL_count_0 2 rfl rfl)
theorem dL_count_3 : decode cL_count 3 = .ok (.iload_n 2, 1) := dec_28 (gB drcL_count_0 3 rfl rfl)
theorem dL_count_4 : decode cL_count 4 = .ok (.invokevirtual 104, 3) := e_182 (x := 0) (y := 104) drcL_count_0 4 rfl rfl
theorem dL_count_7 : decode cL_count 7 = .ok (.i2l, 1) := dec_133 (gB drcL_count_0 7 rfl rfl)
theorem dL_count_8 : decode cL_count 8 = .ok (.putfield 13, 3) := e_181 (x := 0) (y := 13) drcL_count_0 8 rfl rfl
theorem dL_count_11 : decode cL_count 11 = .ok (.goto 7, 3) := e_167 (x := 0) (y := 7) drcL_count_0 11 rfl rfl
theorem dL_count_14 : decode cL_count 14 = .ok (.astore 4, 2) := e_58 (x := 4) drcL_count_0 14 rfl rfl
theorem dL_count_16 : decode cL_count 16 = .ok (.iconst 1, 1) := dec_4 (gB drcL_count_0 16 rfl rfl)
theorem dL_count_17 : decode cL_count 17 = .ok (.ireturn, 1) := dec_172 (gB drcL_count_0 17 rfl rfl)
theorem dL_count_18 : decode cL_count 18 = .ok (.iconst 0, 1) := dec_3 (gB drcL_count_0 18 rfl rfl)
theorem dL_count_19 : decode cL_count 19 = .ok (.ireturn, 1) := dec_172 (gB drcL_count_0 19 rfl rfl)
def lkcL_find_0 : List UInt8 := [0x19, 0x04, 0x2a, 0x1b, 0x1c, 0x1d, 0xb6, 0x00, 0x6c, 0x85, 0xb5, 0x00, 0x0d, 0xa7, 0x00, 0x07, 0x3a, 0x05, 0x04, 0xac, 0x03, 0xac]
def tkcL_find_0 : List UInt8 := lkcL_find_0 ++ []
theorem drcL_find_0 : (cL_find).data.toList.drop 0 = lkcL_find_0 ++ [] := by decide +kernel
theorem dL_find_0 : decode cL_find 0 = .ok (.aload 4, 2) := e_25 (x := 4) drcL_find_0 0 rfl rfl
theorem dL_find_2 : decode cL_find 2 = .ok (.aload_n 0, 1) := dec_42 (gB drcL_find_0 2 rfl rfl)
theorem dL_find_3 : decode cL_find 3 = .ok (.iload_n 1, 1) := dec_27 (gB drcL_find_0 3 rfl rfl)
theorem dL_find_4 : decode cL_find 4 = .ok (.iload_n 2, 1) := dec_28 (gB drcL_find_0 4 rfl rfl)
theorem dL_find_5 : decode cL_find 5 = .ok (.iload_n 3, 1) := dec_29 (gB drcL_find_0 5 rfl rfl)
theorem dL_find_6 : decode cL_find 6 = .ok (.invokevirtual 108, 3) := e_182 (x := 0) (y := 108) drcL_find_0 6 rfl rfl
theorem dL_find_9 : decode cL_find 9 = .ok (.i2l, 1) := dec_133 (gB drcL_find_0 9 rfl rfl)
theorem dL_find_10 : decode cL_find 10 = .ok (.putfield 13, 3) := e_181 (x := 0) (y := 13) drcL_find_0 10 rfl rfl
theorem dL_find_13 : decode cL_find 13 = .ok (.goto 7, 3) := e_167 (x := 0) (y := 7) drcL_find_0 13 rfl rfl
theorem dL_find_16 : decode cL_find 16 = .ok (.astore 5, 2) := e_58 (x := 5) drcL_find_0 16 rfl rfl
theorem dL_find_18 : decode cL_find 18 = .ok (.iconst 1, 1) := dec_4 (gB drcL_find_0 18 rfl rfl)
theorem dL_find_19 : decode cL_find 19 = .ok (.ireturn, 1) := dec_172 (gB drcL_find_0 19 rfl rfl)
theorem dL_find_20 : decode cL_find 20 = .ok (.iconst 0, 1) := dec_3 (gB drcL_find_0 20 rfl rfl)
theorem dL_find_21 : decode cL_find 21 = .ok (.ireturn, 1) := dec_172 (gB drcL_find_0 21 rfl rfl)
def lkcL_findLast_0 : List UInt8 := [0x19, 0x04, 0x2a, 0x1b, 0x1c, 0x1d, 0xb6, 0x00, 0x6f, 0x85, 0xb5, 0x00, 0x0d, 0xa7, 0x00, 0x07, 0x3a, 0x05, 0x04, 0xac, 0x03, 0xac]
def tkcL_findLast_0 : List UInt8 := lkcL_findLast_0 ++ []
theorem drcL_findLast_0 : (cL_findLast).data.toList.drop 0 = lkcL_findLast_0 ++ [] := by decide +kernel
theorem dL_findLast_0 : decode cL_findLast 0 = .ok (.aload 4, 2) := e_25 (x := 4) drcL_findLast_0 0 rfl rfl
theorem dL_findLast_2 : decode cL_findLast 2 = .ok (.aload_n 0, 1) := dec_42 (gB drcL_findLast_0 2 rfl rfl)
theorem dL_findLast_3 : decode cL_findLast 3 = .ok (.iload_n 1, 1) := dec_27 (gB drcL_findLast_0 3 rfl rfl)
theorem dL_findLast_4 : decode cL_findLast 4 = .ok (.iload_n 2, 1) := dec_28 (gB drcL_findLast_0 4 rfl rfl)
theorem dL_findLast_5 : decode cL_findLast 5 = .ok (.iload_n 3, 1) := dec_29 (gB drcL_findLast_0 5 rfl rfl)
theorem dL_findLast_6 : decode cL_findLast 6 = .ok (.invokevirtual 111, 3) := e_182 (x := 0) (y := 111) drcL_findLast_0 6 rfl rfl
theorem dL_findLast_9 : decode cL_findLast 9 = .ok (.i2l, 1) := dec_133 (gB drcL_findLast_0 9 rfl rfl)
theorem dL_findLast_10 : decode cL_findLast 10 = .ok (.putfield 13, 3) := e_181 (x := 0) (y := 13) drcL_findLast_0 10 rfl rfl
theorem dL_findLast_13 : decode cL_findLast 13 = .ok (.goto 7, 3) := e_167 (x := 0) (y := 7) drcL_findLast_0 13 rfl rfl
theorem dL_findLast_16 : decode cL_findLast 16 = .ok (.astore 5, 2) := e_58 (x := 5) drcL_findLast_0 16 rfl rfl
theorem dL_findLast_18 : decode cL_findLast 18 = .ok (.iconst 1, 1) := dec_4 (gB drcL_findLast_0 18 rfl rfl)
theorem dL_findLast_19 : decode cL_findLast 19 = .ok (.ireturn, 1) := dec_172 (gB drcL_findLast_0 19 rfl rfl)
theorem dL_findLast_20 : decode cL_findLast 20 = .ok (.iconst 0, 1) := dec_3 (gB drcL_findLast_0 20 rfl rfl)
theorem dL_findLast_21 : decode cL_findLast 21 = .ok (.ireturn, 1) := dec_172 (gB drcL_findLast_0 21 rfl rfl)
def lkcL_order_0 : List UInt8 := [0x2d, 0x2a, 0x1b, 0x1c, 0xb6, 0x00, 0x72, 0x85, 0xb5, 0x00, 0x0d, 0xa7, 0x00, 0x07, 0x3a, 0x04, 0x04, 0xac, 0x03, 0xac]
def tkcL_order_0 : List UInt8 := lkcL_order_0 ++ []
theorem drcL_order_0 : (cL_order).data.toList.drop 0 = lkcL_order_0 ++ [] := by decide +kernel
theorem dL_order_0 : decode cL_order 0 = .ok (.aload_n 3, 1) := dec_45 (gB drcL_order_0 0 rfl rfl)
theorem dL_order_1 : decode cL_order 1 = .ok (.aload_n 0, 1) := dec_42 (gB drcL_order_0 1 rfl rfl)
theorem dL_order_2 : decode cL_order 2 = .ok (.iload_n 1, 1) := dec_27 (gB drcL_order_0 2 rfl rfl)
theorem dL_order_3 : decode cL_order 3 = .ok (.iload_n 2, 1) := dec_28 (gB drcL_order_0 3 rfl rfl)
theorem dL_order_4 : decode cL_order 4 = .ok (.invokevirtual 114, 3) := e_182 (x := 0) (y := 114) drcL_order_0 4 rfl rfl
theorem dL_order_7 : decode cL_order 7 = .ok (.i2l, 1) := dec_133 (gB drcL_order_0 7 rfl rfl)
theorem dL_order_8 : decode cL_order 8 = .ok (.putfield 13, 3) := e_181 (x := 0) (y := 13) drcL_order_0 8 rfl rfl
theorem dL_order_11 : decode cL_order 11 = .ok (.goto 7, 3) := e_167 (x := 0) (y := 7) drcL_order_0 11 rfl rfl
theorem dL_order_14 : decode cL_order 14 = .ok (.astore 4, 2) := e_58 (x := 4) drcL_order_0 14 rfl rfl
theorem dL_order_16 : decode cL_order 16 = .ok (.iconst 1, 1) := dec_4 (gB drcL_order_0 16 rfl rfl)
theorem dL_order_17 : decode cL_order 17 = .ok (.ireturn, 1) := dec_172 (gB drcL_order_0 17 rfl rfl)
theorem dL_order_18 : decode cL_order 18 = .ok (.iconst 0, 1) := dec_3 (gB drcL_order_0 18 rfl rfl)
theorem dL_order_19 : decode cL_order 19 = .ok (.ireturn, 1) := dec_172 (gB drcL_order_0 19 rfl rfl)
def lkcL_isMirrored_0 : List UInt8 := [0x2c, 0x2a, 0x1b, 0xb6, 0x00, 0x75, 0x99, 0x00, 0x07, 0x0a, 0xa7, 0x00, 0x04, 0x09, 0xb5, 0x00, 0x0d, 0xa7, 0x00, 0x06, 0x4e, 0x04, 0xac, 0x03, 0xac]
def tkcL_isMirrored_0 : List UInt8 := lkcL_isMirrored_0 ++ []
theorem drcL_isMirrored_0 : (cL_isMirrored).data.toList.drop 0 = lkcL_isMirrored_0 ++ [] := by decide +kernel
theorem dL_isMirrored_0 : decode cL_isMirrored 0 = .ok (.aload_n 2, 1) := dec_44 (gB drcL_isMirrored_0 0 rfl rfl)
theorem dL_isMirrored_1 : decode cL_isMirrored 1 = .ok (.aload_n 0, 1) := dec_42 (gB drcL_isMirrored_0 1 rfl rfl)
theorem dL_isMirrored_2 : decode cL_isMirrored 2 = .ok (.iload_n 1, 1) := dec_27 (gB drcL_isMirrored_0 2 rfl rfl)
theorem dL_isMirrored_3 : decode cL_isMirrored 3 = .ok (.invokevirtual 117, 3) := e_182 (x := 0) (y := 117) drcL_isMirrored_0 3 rfl rfl
theorem dL_isMirrored_6 : decode cL_isMirrored 6 = .ok (.ifCond .eq 7, 3) := e_153 (x := 0) (y := 7) drcL_isMirrored_0 6 rfl rfl
theorem dL_isMirrored_9 : decode cL_isMirrored 9 = .ok (.lconst 1, 1) := dec_10 (gB drcL_isMirrored_0 9 rfl rfl)
theorem dL_isMirrored_10 : decode cL_isMirrored 10 = .ok (.goto 4, 3) := e_167 (x := 0) (y := 4) drcL_isMirrored_0 10 rfl rfl
theorem dL_isMirrored_13 : decode cL_isMirrored 13 = .ok (.lconst 0, 1) := dec_9 (gB drcL_isMirrored_0 13 rfl rfl)
theorem dL_isMirrored_14 : decode cL_isMirrored 14 = .ok (.putfield 13, 3) := e_181 (x := 0) (y := 13) drcL_isMirrored_0 14 rfl rfl
theorem dL_isMirrored_17 : decode cL_isMirrored 17 = .ok (.goto 6, 3) := e_167 (x := 0) (y := 6) drcL_isMirrored_0 17 rfl rfl
theorem dL_isMirrored_20 : decode cL_isMirrored 20 = .ok (.astore_n 3, 1) := dec_78 (gB drcL_isMirrored_0 20 rfl rfl)
theorem dL_isMirrored_21 : decode cL_isMirrored 21 = .ok (.iconst 1, 1) := dec_4 (gB drcL_isMirrored_0 21 rfl rfl)
theorem dL_isMirrored_22 : decode cL_isMirrored 22 = .ok (.ireturn, 1) := dec_172 (gB drcL_isMirrored_0 22 rfl rfl)
theorem dL_isMirrored_23 : decode cL_isMirrored 23 = .ok (.iconst 0, 1) := dec_3 (gB drcL_isMirrored_0 23 rfl rfl)
theorem dL_isMirrored_24 : decode cL_isMirrored 24 = .ok (.ireturn, 1) := dec_172 (gB drcL_isMirrored_0 24 rfl rfl)
def lkcL_spread_0 : List UInt8 := [0x19, 0x04, 0x2a, 0x1b, 0x1c, 0x1d, 0xb6, 0x00, 0x79, 0x85, 0xb5, 0x00, 0x0d, 0xa7, 0x00, 0x0b, 0x3a, 0x05, 0x04, 0xac, 0x3a, 0x05, 0x05, 0xac, 0x03, 0xac]
def tkcL_spread_0 : List UInt8 := lkcL_spread_0 ++ []
theorem drcL_spread_0 : (cL_spread).data.toList.drop 0 = lkcL_spread_0 ++ [] := by decide +kernel
theorem dL_spread_0 : decode cL_spread 0 = .ok (.aload 4, 2) := e_25 (x := 4) drcL_spread_0 0 rfl rfl
theorem dL_spread_2 : decode cL_spread 2 = .ok (.aload_n 0, 1) := dec_42 (gB drcL_spread_0 2 rfl rfl)
theorem dL_spread_3 : decode cL_spread 3 = .ok (.iload_n 1, 1) := dec_27 (gB drcL_spread_0 3 rfl rfl)
theorem dL_spread_4 : decode cL_spread 4 = .ok (.iload_n 2, 1) := dec_28 (gB drcL_spread_0 4 rfl rfl)
theorem dL_spread_5 : decode cL_spread 5 = .ok (.iload_n 3, 1) := dec_29 (gB drcL_spread_0 5 rfl rfl)
theorem dL_spread_6 : decode cL_spread 6 = .ok (.invokevirtual 121, 3) := e_182 (x := 0) (y := 121) drcL_spread_0 6 rfl rfl
theorem dL_spread_9 : decode cL_spread 9 = .ok (.i2l, 1) := dec_133 (gB drcL_spread_0 9 rfl rfl)
theorem dL_spread_10 : decode cL_spread 10 = .ok (.putfield 13, 3) := e_181 (x := 0) (y := 13) drcL_spread_0 10 rfl rfl
theorem dL_spread_13 : decode cL_spread 13 = .ok (.goto 11, 3) := e_167 (x := 0) (y := 11) drcL_spread_0 13 rfl rfl
theorem dL_spread_16 : decode cL_spread 16 = .ok (.astore 5, 2) := e_58 (x := 5) drcL_spread_0 16 rfl rfl
theorem dL_spread_18 : decode cL_spread 18 = .ok (.iconst 1, 1) := dec_4 (gB drcL_spread_0 18 rfl rfl)
theorem dL_spread_19 : decode cL_spread 19 = .ok (.ireturn, 1) := dec_172 (gB drcL_spread_0 19 rfl rfl)
theorem dL_spread_20 : decode cL_spread 20 = .ok (.astore 5, 2) := e_58 (x := 5) drcL_spread_0 20 rfl rfl
theorem dL_spread_22 : decode cL_spread 22 = .ok (.iconst 2, 1) := dec_5 (gB drcL_spread_0 22 rfl rfl)
theorem dL_spread_23 : decode cL_spread 23 = .ok (.ireturn, 1) := dec_172 (gB drcL_spread_0 23 rfl rfl)
theorem dL_spread_24 : decode cL_spread 24 = .ok (.iconst 0, 1) := dec_3 (gB drcL_spread_0 24 rfl rfl)
theorem dL_spread_25 : decode cL_spread 25 = .ok (.ireturn, 1) := dec_172 (gB drcL_spread_0 25 rfl rfl)
def lkcL_kinds_0 : List UInt8 := [0x19, 0x04, 0x2a, 0x1b, 0x1c, 0x1d, 0xb6, 0x00, 0x7c, 0x85, 0xb5, 0x00, 0x0d, 0xa7, 0x00, 0x0b, 0x3a, 0x05, 0x04, 0xac, 0x3a, 0x05, 0x05, 0xac, 0x03, 0xac]
def tkcL_kinds_0 : List UInt8 := lkcL_kinds_0 ++ []
theorem drcL_kinds_0 : (cL_kinds).data.toList.drop 0 = lkcL_kinds_0 ++ [] := by decide +kernel
theorem dL_kinds_0 : decode cL_kinds 0 = .ok (.aload 4, 2) := e_25 (x := 4) drcL_kinds_0 0 rfl rfl
theorem dL_kinds_2 : decode cL_kinds 2 = .ok (.aload_n 0, 1) := dec_42 (gB drcL_kinds_0 2 rfl rfl)
theorem dL_kinds_3 : decode cL_kinds 3 = .ok (.iload_n 1, 1) := dec_27 (gB drcL_kinds_0 3 rfl rfl)
theorem dL_kinds_4 : decode cL_kinds 4 = .ok (.iload_n 2, 1) := dec_28 (gB drcL_kinds_0 4 rfl rfl)
theorem dL_kinds_5 : decode cL_kinds 5 = .ok (.iload_n 3, 1) := dec_29 (gB drcL_kinds_0 5 rfl rfl)
theorem dL_kinds_6 : decode cL_kinds 6 = .ok (.invokevirtual 124, 3) := e_182 (x := 0) (y := 124) drcL_kinds_0 6 rfl rfl
theorem dL_kinds_9 : decode cL_kinds 9 = .ok (.i2l, 1) := dec_133 (gB drcL_kinds_0 9 rfl rfl)
theorem dL_kinds_10 : decode cL_kinds 10 = .ok (.putfield 13, 3) := e_181 (x := 0) (y := 13) drcL_kinds_0 10 rfl rfl
theorem dL_kinds_13 : decode cL_kinds 13 = .ok (.goto 11, 3) := e_167 (x := 0) (y := 11) drcL_kinds_0 13 rfl rfl
theorem dL_kinds_16 : decode cL_kinds 16 = .ok (.astore 5, 2) := e_58 (x := 5) drcL_kinds_0 16 rfl rfl
theorem dL_kinds_18 : decode cL_kinds 18 = .ok (.iconst 1, 1) := dec_4 (gB drcL_kinds_0 18 rfl rfl)
theorem dL_kinds_19 : decode cL_kinds 19 = .ok (.ireturn, 1) := dec_172 (gB drcL_kinds_0 19 rfl rfl)
theorem dL_kinds_20 : decode cL_kinds 20 = .ok (.astore 5, 2) := e_58 (x := 5) drcL_kinds_0 20 rfl rfl
theorem dL_kinds_22 : decode cL_kinds 22 = .ok (.iconst 2, 1) := dec_5 (gB drcL_kinds_0 22 rfl rfl)
theorem dL_kinds_23 : decode cL_kinds 23 = .ok (.ireturn, 1) := dec_172 (gB drcL_kinds_0 23 rfl rfl)
theorem dL_kinds_24 : decode cL_kinds 24 = .ok (.iconst 0, 1) := dec_3 (gB drcL_kinds_0 24 rfl rfl)
theorem dL_kinds_25 : decode cL_kinds 25 = .ok (.ireturn, 1) := dec_172 (gB drcL_kinds_0 25 rfl rfl)
def lkcL_times_0 : List UInt8 := [0x2c, 0x2a, 0x1b, 0xb6, 0x00, 0x7f, 0x85, 0xb5, 0x00, 0x0d, 0xa7, 0x00, 0x06, 0x4e, 0x04, 0xac, 0x03, 0xac]
def tkcL_times_0 : List UInt8 := lkcL_times_0 ++ []
theorem drcL_times_0 : (cL_times).data.toList.drop 0 = lkcL_times_0 ++ [] := by decide +kernel
theorem dL_times_0 : decode cL_times 0 = .ok (.aload_n 2, 1) := dec_44 (gB drcL_times_0 0 rfl rfl)
theorem dL_times_1 : decode cL_times 1 = .ok (.aload_n 0, 1) := dec_42 (gB drcL_times_0 1 rfl rfl)
theorem dL_times_2 : decode cL_times 2 = .ok (.iload_n 1, 1) := dec_27 (gB drcL_times_0 2 rfl rfl)
theorem dL_times_3 : decode cL_times 3 = .ok (.invokevirtual 127, 3) := e_182 (x := 0) (y := 127) drcL_times_0 3 rfl rfl
theorem dL_times_6 : decode cL_times 6 = .ok (.i2l, 1) := dec_133 (gB drcL_times_0 6 rfl rfl)
theorem dL_times_7 : decode cL_times 7 = .ok (.putfield 13, 3) := e_181 (x := 0) (y := 13) drcL_times_0 7 rfl rfl
theorem dL_times_10 : decode cL_times 10 = .ok (.goto 6, 3) := e_167 (x := 0) (y := 6) drcL_times_0 10 rfl rfl
theorem dL_times_13 : decode cL_times 13 = .ok (.astore_n 3, 1) := dec_78 (gB drcL_times_0 13 rfl rfl)
theorem dL_times_14 : decode cL_times 14 = .ok (.iconst 1, 1) := dec_4 (gB drcL_times_0 14 rfl rfl)
theorem dL_times_15 : decode cL_times 15 = .ok (.ireturn, 1) := dec_172 (gB drcL_times_0 15 rfl rfl)
theorem dL_times_16 : decode cL_times 16 = .ok (.iconst 0, 1) := dec_3 (gB drcL_times_0 16 rfl rfl)
theorem dL_times_17 : decode cL_times 17 = .ok (.ireturn, 1) := dec_172 (gB drcL_times_0 17 rfl rfl)
def lkcL_overlaps_0 : List UInt8 := [0x2c, 0x2a, 0x1b, 0xb6, 0x00, 0x82, 0x85, 0xb5, 0x00, 0x0d, 0xa7, 0x00, 0x06, 0x4e, 0x04, 0xac, 0x03, 0xac]
def tkcL_overlaps_0 : List UInt8 := lkcL_overlaps_0 ++ []
theorem drcL_overlaps_0 : (cL_overlaps).data.toList.drop 0 = lkcL_overlaps_0 ++ [] := by decide +kernel
theorem dL_overlaps_0 : decode cL_overlaps 0 = .ok (.aload_n 2, 1) := dec_44 (gB drcL_overlaps_0 0 rfl rfl)
theorem dL_overlaps_1 : decode cL_overlaps 1 = .ok (.aload_n 0, 1) := dec_42 (gB drcL_overlaps_0 1 rfl rfl)
theorem dL_overlaps_2 : decode cL_overlaps 2 = .ok (.iload_n 1, 1) := dec_27 (gB drcL_overlaps_0 2 rfl rfl)
theorem dL_overlaps_3 : decode cL_overlaps 3 = .ok (.invokevirtual 130, 3) := e_182 (x := 0) (y := 130) drcL_overlaps_0 3 rfl rfl
theorem dL_overlaps_6 : decode cL_overlaps 6 = .ok (.i2l, 1) := dec_133 (gB drcL_overlaps_0 6 rfl rfl)
theorem dL_overlaps_7 : decode cL_overlaps 7 = .ok (.putfield 13, 3) := e_181 (x := 0) (y := 13) drcL_overlaps_0 7 rfl rfl
theorem dL_overlaps_10 : decode cL_overlaps 10 = .ok (.goto 6, 3) := e_167 (x := 0) (y := 6) drcL_overlaps_0 10 rfl rfl
theorem dL_overlaps_13 : decode cL_overlaps 13 = .ok (.astore_n 3, 1) := dec_78 (gB drcL_overlaps_0 13 rfl rfl)
theorem dL_overlaps_14 : decode cL_overlaps 14 = .ok (.iconst 1, 1) := dec_4 (gB drcL_overlaps_0 14 rfl rfl)
theorem dL_overlaps_15 : decode cL_overlaps 15 = .ok (.ireturn, 1) := dec_172 (gB drcL_overlaps_0 15 rfl rfl)
theorem dL_overlaps_16 : decode cL_overlaps 16 = .ok (.iconst 0, 1) := dec_3 (gB drcL_overlaps_0 16 rfl rfl)
theorem dL_overlaps_17 : decode cL_overlaps 17 = .ok (.ireturn, 1) := dec_172 (gB drcL_overlaps_0 17 rfl rfl)
def lkcL_mirrors_0 : List UInt8 := [0x2c, 0x2a, 0x1b, 0xb6, 0x00, 0x85, 0x85, 0xb5, 0x00, 0x0d, 0xa7, 0x00, 0x06, 0x4e, 0x04, 0xac, 0x03, 0xac]
def tkcL_mirrors_0 : List UInt8 := lkcL_mirrors_0 ++ []
theorem drcL_mirrors_0 : (cL_mirrors).data.toList.drop 0 = lkcL_mirrors_0 ++ [] := by decide +kernel
theorem dL_mirrors_0 : decode cL_mirrors 0 = .ok (.aload_n 2, 1) := dec_44 (gB drcL_mirrors_0 0 rfl rfl)
theorem dL_mirrors_1 : decode cL_mirrors 1 = .ok (.aload_n 0, 1) := dec_42 (gB drcL_mirrors_0 1 rfl rfl)
theorem dL_mirrors_2 : decode cL_mirrors 2 = .ok (.iload_n 1, 1) := dec_27 (gB drcL_mirrors_0 2 rfl rfl)
theorem dL_mirrors_3 : decode cL_mirrors 3 = .ok (.invokevirtual 133, 3) := e_182 (x := 0) (y := 133) drcL_mirrors_0 3 rfl rfl
theorem dL_mirrors_6 : decode cL_mirrors 6 = .ok (.i2l, 1) := dec_133 (gB drcL_mirrors_0 6 rfl rfl)
theorem dL_mirrors_7 : decode cL_mirrors 7 = .ok (.putfield 13, 3) := e_181 (x := 0) (y := 13) drcL_mirrors_0 7 rfl rfl
theorem dL_mirrors_10 : decode cL_mirrors 10 = .ok (.goto 6, 3) := e_167 (x := 0) (y := 6) drcL_mirrors_0 10 rfl rfl
theorem dL_mirrors_13 : decode cL_mirrors 13 = .ok (.astore_n 3, 1) := dec_78 (gB drcL_mirrors_0 13 rfl rfl)
theorem dL_mirrors_14 : decode cL_mirrors 14 = .ok (.iconst 1, 1) := dec_4 (gB drcL_mirrors_0 14 rfl rfl)
theorem dL_mirrors_15 : decode cL_mirrors 15 = .ok (.ireturn, 1) := dec_172 (gB drcL_mirrors_0 15 rfl rfl)
theorem dL_mirrors_16 : decode cL_mirrors 16 = .ok (.iconst 0, 1) := dec_3 (gB drcL_mirrors_0 16 rfl rfl)
theorem dL_mirrors_17 : decode cL_mirrors 17 = .ok (.ireturn, 1) := dec_172 (gB drcL_mirrors_0 17 rfl rfl)
def lkcL_folds_0 : List UInt8 := [0x2c, 0x2a, 0x1b, 0xb6, 0x00, 0x88, 0x85, 0xb5, 0x00, 0x0d, 0xa7, 0x00, 0x06, 0x4e, 0x04, 0xac, 0x03, 0xac]
def tkcL_folds_0 : List UInt8 := lkcL_folds_0 ++ []
theorem drcL_folds_0 : (cL_folds).data.toList.drop 0 = lkcL_folds_0 ++ [] := by decide +kernel
theorem dL_folds_0 : decode cL_folds 0 = .ok (.aload_n 2, 1) := dec_44 (gB drcL_folds_0 0 rfl rfl)
theorem dL_folds_1 : decode cL_folds 1 = .ok (.aload_n 0, 1) := dec_42 (gB drcL_folds_0 1 rfl rfl)
theorem dL_folds_2 : decode cL_folds 2 = .ok (.iload_n 1, 1) := dec_27 (gB drcL_folds_0 2 rfl rfl)
theorem dL_folds_3 : decode cL_folds 3 = .ok (.invokevirtual 136, 3) := e_182 (x := 0) (y := 136) drcL_folds_0 3 rfl rfl
theorem dL_folds_6 : decode cL_folds 6 = .ok (.i2l, 1) := dec_133 (gB drcL_folds_0 6 rfl rfl)
theorem dL_folds_7 : decode cL_folds 7 = .ok (.putfield 13, 3) := e_181 (x := 0) (y := 13) drcL_folds_0 7 rfl rfl
theorem dL_folds_10 : decode cL_folds 10 = .ok (.goto 6, 3) := e_167 (x := 0) (y := 6) drcL_folds_0 10 rfl rfl
theorem dL_folds_13 : decode cL_folds 13 = .ok (.astore_n 3, 1) := dec_78 (gB drcL_folds_0 13 rfl rfl)
theorem dL_folds_14 : decode cL_folds 14 = .ok (.iconst 1, 1) := dec_4 (gB drcL_folds_0 14 rfl rfl)
theorem dL_folds_15 : decode cL_folds 15 = .ok (.ireturn, 1) := dec_172 (gB drcL_folds_0 15 rfl rfl)
theorem dL_folds_16 : decode cL_folds 16 = .ok (.iconst 0, 1) := dec_3 (gB drcL_folds_0 16 rfl rfl)
theorem dL_folds_17 : decode cL_folds 17 = .ok (.ireturn, 1) := dec_172 (gB drcL_folds_0 17 rfl rfl)
def lkcL_least_0 : List UInt8 := [0x2c, 0x2a, 0x1b, 0xb6, 0x00, 0x8b, 0x85, 0xb5, 0x00, 0x0d, 0xa7, 0x00, 0x06, 0x4e, 0x04, 0xac, 0x03, 0xac]
def tkcL_least_0 : List UInt8 := lkcL_least_0 ++ []
theorem drcL_least_0 : (cL_least).data.toList.drop 0 = lkcL_least_0 ++ [] := by decide +kernel
theorem dL_least_0 : decode cL_least 0 = .ok (.aload_n 2, 1) := dec_44 (gB drcL_least_0 0 rfl rfl)
theorem dL_least_1 : decode cL_least 1 = .ok (.aload_n 0, 1) := dec_42 (gB drcL_least_0 1 rfl rfl)
theorem dL_least_2 : decode cL_least 2 = .ok (.iload_n 1, 1) := dec_27 (gB drcL_least_0 2 rfl rfl)
theorem dL_least_3 : decode cL_least 3 = .ok (.invokevirtual 139, 3) := e_182 (x := 0) (y := 139) drcL_least_0 3 rfl rfl
theorem dL_least_6 : decode cL_least 6 = .ok (.i2l, 1) := dec_133 (gB drcL_least_0 6 rfl rfl)
theorem dL_least_7 : decode cL_least 7 = .ok (.putfield 13, 3) := e_181 (x := 0) (y := 13) drcL_least_0 7 rfl rfl
theorem dL_least_10 : decode cL_least 10 = .ok (.goto 6, 3) := e_167 (x := 0) (y := 6) drcL_least_0 10 rfl rfl
theorem dL_least_13 : decode cL_least 13 = .ok (.astore_n 3, 1) := dec_78 (gB drcL_least_0 13 rfl rfl)
theorem dL_least_14 : decode cL_least 14 = .ok (.iconst 1, 1) := dec_4 (gB drcL_least_0 14 rfl rfl)
theorem dL_least_15 : decode cL_least 15 = .ok (.ireturn, 1) := dec_172 (gB drcL_least_0 15 rfl rfl)
theorem dL_least_16 : decode cL_least 16 = .ok (.iconst 0, 1) := dec_3 (gB drcL_least_0 16 rfl rfl)
theorem dL_least_17 : decode cL_least 17 = .ok (.ireturn, 1) := dec_172 (gB drcL_least_0 17 rfl rfl)
def lkcL_isApart_0 : List UInt8 := [0x2d, 0x2a, 0x1b, 0x1c, 0xb6, 0x00, 0x8e, 0x99, 0x00, 0x07, 0x0a, 0xa7, 0x00, 0x04, 0x09, 0xb5, 0x00, 0x0d, 0xa7, 0x00, 0x07, 0x3a, 0x04, 0x04, 0xac, 0x03, 0xac]
def tkcL_isApart_0 : List UInt8 := lkcL_isApart_0 ++ []
theorem drcL_isApart_0 : (cL_isApart).data.toList.drop 0 = lkcL_isApart_0 ++ [] := by decide +kernel
theorem dL_isApart_0 : decode cL_isApart 0 = .ok (.aload_n 3, 1) := dec_45 (gB drcL_isApart_0 0 rfl rfl)
theorem dL_isApart_1 : decode cL_isApart 1 = .ok (.aload_n 0, 1) := dec_42 (gB drcL_isApart_0 1 rfl rfl)
theorem dL_isApart_2 : decode cL_isApart 2 = .ok (.iload_n 1, 1) := dec_27 (gB drcL_isApart_0 2 rfl rfl)
theorem dL_isApart_3 : decode cL_isApart 3 = .ok (.iload_n 2, 1) := dec_28 (gB drcL_isApart_0 3 rfl rfl)
theorem dL_isApart_4 : decode cL_isApart 4 = .ok (.invokevirtual 142, 3) := e_182 (x := 0) (y := 142) drcL_isApart_0 4 rfl rfl
theorem dL_isApart_7 : decode cL_isApart 7 = .ok (.ifCond .eq 7, 3) := e_153 (x := 0) (y := 7) drcL_isApart_0 7 rfl rfl
theorem dL_isApart_10 : decode cL_isApart 10 = .ok (.lconst 1, 1) := dec_10 (gB drcL_isApart_0 10 rfl rfl)
theorem dL_isApart_11 : decode cL_isApart 11 = .ok (.goto 4, 3) := e_167 (x := 0) (y := 4) drcL_isApart_0 11 rfl rfl
theorem dL_isApart_14 : decode cL_isApart 14 = .ok (.lconst 0, 1) := dec_9 (gB drcL_isApart_0 14 rfl rfl)
theorem dL_isApart_15 : decode cL_isApart 15 = .ok (.putfield 13, 3) := e_181 (x := 0) (y := 13) drcL_isApart_0 15 rfl rfl
theorem dL_isApart_18 : decode cL_isApart 18 = .ok (.goto 7, 3) := e_167 (x := 0) (y := 7) drcL_isApart_0 18 rfl rfl
theorem dL_isApart_21 : decode cL_isApart 21 = .ok (.astore 4, 2) := e_58 (x := 4) drcL_isApart_0 21 rfl rfl
theorem dL_isApart_23 : decode cL_isApart 23 = .ok (.iconst 1, 1) := dec_4 (gB drcL_isApart_0 23 rfl rfl)
theorem dL_isApart_24 : decode cL_isApart 24 = .ok (.ireturn, 1) := dec_172 (gB drcL_isApart_0 24 rfl rfl)
theorem dL_isApart_25 : decode cL_isApart 25 = .ok (.iconst 0, 1) := dec_3 (gB drcL_isApart_0 25 rfl rfl)
theorem dL_isApart_26 : decode cL_isApart 26 = .ok (.ireturn, 1) := dec_172 (gB drcL_isApart_0 26 rfl rfl)
def lkcL_turns_0 : List UInt8 := [0x2c, 0x2a, 0x1b, 0xb6, 0x00, 0x91, 0xb5, 0x00, 0x64, 0xa7, 0x00, 0x06, 0x4e, 0x04, 0xac, 0x03, 0xac]
def tkcL_turns_0 : List UInt8 := lkcL_turns_0 ++ []
theorem drcL_turns_0 : (cL_turns).data.toList.drop 0 = lkcL_turns_0 ++ [] := by decide +kernel
theorem dL_turns_0 : decode cL_turns 0 = .ok (.aload_n 2, 1) := dec_44 (gB drcL_turns_0 0 rfl rfl)
theorem dL_turns_1 : decode cL_turns 1 = .ok (.aload_n 0, 1) := dec_42 (gB drcL_turns_0 1 rfl rfl)
theorem dL_turns_2 : decode cL_turns 2 = .ok (.iload_n 1, 1) := dec_27 (gB drcL_turns_0 2 rfl rfl)
theorem dL_turns_3 : decode cL_turns 3 = .ok (.invokevirtual 145, 3) := e_182 (x := 0) (y := 145) drcL_turns_0 3 rfl rfl
theorem dL_turns_6 : decode cL_turns 6 = .ok (.putfield 100, 3) := e_181 (x := 0) (y := 100) drcL_turns_0 6 rfl rfl
theorem dL_turns_9 : decode cL_turns 9 = .ok (.goto 6, 3) := e_167 (x := 0) (y := 6) drcL_turns_0 9 rfl rfl
theorem dL_turns_12 : decode cL_turns 12 = .ok (.astore_n 3, 1) := dec_78 (gB drcL_turns_0 12 rfl rfl)
theorem dL_turns_13 : decode cL_turns 13 = .ok (.iconst 1, 1) := dec_4 (gB drcL_turns_0 13 rfl rfl)
theorem dL_turns_14 : decode cL_turns 14 = .ok (.ireturn, 1) := dec_172 (gB drcL_turns_0 14 rfl rfl)
theorem dL_turns_15 : decode cL_turns 15 = .ok (.iconst 0, 1) := dec_3 (gB drcL_turns_0 15 rfl rfl)
theorem dL_turns_16 : decode cL_turns 16 = .ok (.ireturn, 1) := dec_172 (gB drcL_turns_0 16 rfl rfl)
def lkcL_grown_0 : List UInt8 := [0x2d, 0x2a, 0x1b, 0x1c, 0xb6, 0x00, 0x94, 0xb5, 0x00, 0x64, 0xa7, 0x00, 0x07, 0x3a, 0x04, 0x04, 0xac, 0x03, 0xac]
def tkcL_grown_0 : List UInt8 := lkcL_grown_0 ++ []
theorem drcL_grown_0 : (cL_grown).data.toList.drop 0 = lkcL_grown_0 ++ [] := by decide +kernel
theorem dL_grown_0 : decode cL_grown 0 = .ok (.aload_n 3, 1) := dec_45 (gB drcL_grown_0 0 rfl rfl)
theorem dL_grown_1 : decode cL_grown 1 = .ok (.aload_n 0, 1) := dec_42 (gB drcL_grown_0 1 rfl rfl)
theorem dL_grown_2 : decode cL_grown 2 = .ok (.iload_n 1, 1) := dec_27 (gB drcL_grown_0 2 rfl rfl)
theorem dL_grown_3 : decode cL_grown 3 = .ok (.iload_n 2, 1) := dec_28 (gB drcL_grown_0 3 rfl rfl)
theorem dL_grown_4 : decode cL_grown 4 = .ok (.invokevirtual 148, 3) := e_182 (x := 0) (y := 148) drcL_grown_0 4 rfl rfl
theorem dL_grown_7 : decode cL_grown 7 = .ok (.putfield 100, 3) := e_181 (x := 0) (y := 100) drcL_grown_0 7 rfl rfl
theorem dL_grown_10 : decode cL_grown 10 = .ok (.goto 7, 3) := e_167 (x := 0) (y := 7) drcL_grown_0 10 rfl rfl
theorem dL_grown_13 : decode cL_grown 13 = .ok (.astore 4, 2) := e_58 (x := 4) drcL_grown_0 13 rfl rfl
theorem dL_grown_15 : decode cL_grown 15 = .ok (.iconst 1, 1) := dec_4 (gB drcL_grown_0 15 rfl rfl)
theorem dL_grown_16 : decode cL_grown 16 = .ok (.ireturn, 1) := dec_172 (gB drcL_grown_0 16 rfl rfl)
theorem dL_grown_17 : decode cL_grown 17 = .ok (.iconst 0, 1) := dec_3 (gB drcL_grown_0 17 rfl rfl)
theorem dL_grown_18 : decode cL_grown 18 = .ok (.ireturn, 1) := dec_172 (gB drcL_grown_0 18 rfl rfl)
def lkcL_size_0 : List UInt8 := [0x2d, 0x2a, 0x1b, 0x1c, 0xb6, 0x00, 0x98, 0x85, 0xb5, 0x00, 0x0d, 0xa7, 0x00, 0x07, 0x3a, 0x04, 0x04, 0xac, 0x03, 0xac]
def tkcL_size_0 : List UInt8 := lkcL_size_0 ++ []
theorem drcL_size_0 : (cL_size).data.toList.drop 0 = lkcL_size_0 ++ [] := by decide +kernel
theorem dL_size_0 : decode cL_size 0 = .ok (.aload_n 3, 1) := dec_45 (gB drcL_size_0 0 rfl rfl)
theorem dL_size_1 : decode cL_size 1 = .ok (.aload_n 0, 1) := dec_42 (gB drcL_size_0 1 rfl rfl)
theorem dL_size_2 : decode cL_size 2 = .ok (.iload_n 1, 1) := dec_27 (gB drcL_size_0 2 rfl rfl)
theorem dL_size_3 : decode cL_size 3 = .ok (.iload_n 2, 1) := dec_28 (gB drcL_size_0 3 rfl rfl)
theorem dL_size_4 : decode cL_size 4 = .ok (.invokevirtual 152, 3) := e_182 (x := 0) (y := 152) drcL_size_0 4 rfl rfl
theorem dL_size_7 : decode cL_size 7 = .ok (.i2l, 1) := dec_133 (gB drcL_size_0 7 rfl rfl)
theorem dL_size_8 : decode cL_size 8 = .ok (.putfield 13, 3) := e_181 (x := 0) (y := 13) drcL_size_0 8 rfl rfl
theorem dL_size_11 : decode cL_size 11 = .ok (.goto 7, 3) := e_167 (x := 0) (y := 7) drcL_size_0 11 rfl rfl
theorem dL_size_14 : decode cL_size 14 = .ok (.astore 4, 2) := e_58 (x := 4) drcL_size_0 14 rfl rfl
theorem dL_size_16 : decode cL_size 16 = .ok (.iconst 1, 1) := dec_4 (gB drcL_size_0 16 rfl rfl)
theorem dL_size_17 : decode cL_size 17 = .ok (.ireturn, 1) := dec_172 (gB drcL_size_0 17 rfl rfl)
theorem dL_size_18 : decode cL_size 18 = .ok (.iconst 0, 1) := dec_3 (gB drcL_size_0 18 rfl rfl)
theorem dL_size_19 : decode cL_size 19 = .ok (.ireturn, 1) := dec_172 (gB drcL_size_0 19 rfl rfl)
def lkcL_ups_0 : List UInt8 := [0x2d, 0x2a, 0x1b, 0x1c, 0xb6, 0x00, 0x9b, 0x85, 0xb5, 0x00, 0x0d, 0xa7, 0x00, 0x07, 0x3a, 0x04, 0x04, 0xac, 0x03, 0xac]
def tkcL_ups_0 : List UInt8 := lkcL_ups_0 ++ []
theorem drcL_ups_0 : (cL_ups).data.toList.drop 0 = lkcL_ups_0 ++ [] := by decide +kernel
theorem dL_ups_0 : decode cL_ups 0 = .ok (.aload_n 3, 1) := dec_45 (gB drcL_ups_0 0 rfl rfl)
theorem dL_ups_1 : decode cL_ups 1 = .ok (.aload_n 0, 1) := dec_42 (gB drcL_ups_0 1 rfl rfl)
theorem dL_ups_2 : decode cL_ups 2 = .ok (.iload_n 1, 1) := dec_27 (gB drcL_ups_0 2 rfl rfl)
theorem dL_ups_3 : decode cL_ups 3 = .ok (.iload_n 2, 1) := dec_28 (gB drcL_ups_0 3 rfl rfl)
theorem dL_ups_4 : decode cL_ups 4 = .ok (.invokevirtual 155, 3) := e_182 (x := 0) (y := 155) drcL_ups_0 4 rfl rfl
theorem dL_ups_7 : decode cL_ups 7 = .ok (.i2l, 1) := dec_133 (gB drcL_ups_0 7 rfl rfl)
theorem dL_ups_8 : decode cL_ups 8 = .ok (.putfield 13, 3) := e_181 (x := 0) (y := 13) drcL_ups_0 8 rfl rfl
theorem dL_ups_11 : decode cL_ups 11 = .ok (.goto 7, 3) := e_167 (x := 0) (y := 7) drcL_ups_0 11 rfl rfl
theorem dL_ups_14 : decode cL_ups 14 = .ok (.astore 4, 2) := e_58 (x := 4) drcL_ups_0 14 rfl rfl
theorem dL_ups_16 : decode cL_ups 16 = .ok (.iconst 1, 1) := dec_4 (gB drcL_ups_0 16 rfl rfl)
theorem dL_ups_17 : decode cL_ups 17 = .ok (.ireturn, 1) := dec_172 (gB drcL_ups_0 17 rfl rfl)
theorem dL_ups_18 : decode cL_ups 18 = .ok (.iconst 0, 1) := dec_3 (gB drcL_ups_0 18 rfl rfl)
theorem dL_ups_19 : decode cL_ups 19 = .ok (.ireturn, 1) := dec_172 (gB drcL_ups_0 19 rfl rfl)
def lkcL_cross_0 : List UInt8 := [0x2c, 0x2a, 0x1b, 0xb6, 0x00, 0x9e, 0x85, 0xb5, 0x00, 0x0d, 0xa7, 0x00, 0x06, 0x4e, 0x04, 0xac, 0x03, 0xac]
def tkcL_cross_0 : List UInt8 := lkcL_cross_0 ++ []
theorem drcL_cross_0 : (cL_cross).data.toList.drop 0 = lkcL_cross_0 ++ [] := by decide +kernel
theorem dL_cross_0 : decode cL_cross 0 = .ok (.aload_n 2, 1) := dec_44 (gB drcL_cross_0 0 rfl rfl)
theorem dL_cross_1 : decode cL_cross 1 = .ok (.aload_n 0, 1) := dec_42 (gB drcL_cross_0 1 rfl rfl)
theorem dL_cross_2 : decode cL_cross 2 = .ok (.iload_n 1, 1) := dec_27 (gB drcL_cross_0 2 rfl rfl)
theorem dL_cross_3 : decode cL_cross 3 = .ok (.invokevirtual 158, 3) := e_182 (x := 0) (y := 158) drcL_cross_0 3 rfl rfl
theorem dL_cross_6 : decode cL_cross 6 = .ok (.i2l, 1) := dec_133 (gB drcL_cross_0 6 rfl rfl)
theorem dL_cross_7 : decode cL_cross 7 = .ok (.putfield 13, 3) := e_181 (x := 0) (y := 13) drcL_cross_0 7 rfl rfl
theorem dL_cross_10 : decode cL_cross 10 = .ok (.goto 6, 3) := e_167 (x := 0) (y := 6) drcL_cross_0 10 rfl rfl
theorem dL_cross_13 : decode cL_cross 13 = .ok (.astore_n 3, 1) := dec_78 (gB drcL_cross_0 13 rfl rfl)
theorem dL_cross_14 : decode cL_cross 14 = .ok (.iconst 1, 1) := dec_4 (gB drcL_cross_0 14 rfl rfl)
theorem dL_cross_15 : decode cL_cross 15 = .ok (.ireturn, 1) := dec_172 (gB drcL_cross_0 15 rfl rfl)
theorem dL_cross_16 : decode cL_cross 16 = .ok (.iconst 0, 1) := dec_3 (gB drcL_cross_0 16 rfl rfl)
theorem dL_cross_17 : decode cL_cross 17 = .ok (.ireturn, 1) := dec_172 (gB drcL_cross_0 17 rfl rfl)
def lkcL_alike_0 : List UInt8 := [0x2c, 0x2a, 0x1b, 0xb6, 0x00, 0xa1, 0x85, 0xb5, 0x00, 0x0d, 0xa7, 0x00, 0x06, 0x4e, 0x04, 0xac, 0x03, 0xac]
def tkcL_alike_0 : List UInt8 := lkcL_alike_0 ++ []
theorem drcL_alike_0 : (cL_alike).data.toList.drop 0 = lkcL_alike_0 ++ [] := by decide +kernel
theorem dL_alike_0 : decode cL_alike 0 = .ok (.aload_n 2, 1) := dec_44 (gB drcL_alike_0 0 rfl rfl)
theorem dL_alike_1 : decode cL_alike 1 = .ok (.aload_n 0, 1) := dec_42 (gB drcL_alike_0 1 rfl rfl)
theorem dL_alike_2 : decode cL_alike 2 = .ok (.iload_n 1, 1) := dec_27 (gB drcL_alike_0 2 rfl rfl)
theorem dL_alike_3 : decode cL_alike 3 = .ok (.invokevirtual 161, 3) := e_182 (x := 0) (y := 161) drcL_alike_0 3 rfl rfl
theorem dL_alike_6 : decode cL_alike 6 = .ok (.i2l, 1) := dec_133 (gB drcL_alike_0 6 rfl rfl)
theorem dL_alike_7 : decode cL_alike 7 = .ok (.putfield 13, 3) := e_181 (x := 0) (y := 13) drcL_alike_0 7 rfl rfl
theorem dL_alike_10 : decode cL_alike 10 = .ok (.goto 6, 3) := e_167 (x := 0) (y := 6) drcL_alike_0 10 rfl rfl
theorem dL_alike_13 : decode cL_alike 13 = .ok (.astore_n 3, 1) := dec_78 (gB drcL_alike_0 13 rfl rfl)
theorem dL_alike_14 : decode cL_alike 14 = .ok (.iconst 1, 1) := dec_4 (gB drcL_alike_0 14 rfl rfl)
theorem dL_alike_15 : decode cL_alike 15 = .ok (.ireturn, 1) := dec_172 (gB drcL_alike_0 15 rfl rfl)
theorem dL_alike_16 : decode cL_alike 16 = .ok (.iconst 0, 1) := dec_3 (gB drcL_alike_0 16 rfl rfl)
theorem dL_alike_17 : decode cL_alike 17 = .ok (.ireturn, 1) := dec_172 (gB drcL_alike_0 17 rfl rfl)
def lkcL_house_0 : List UInt8 := [0x2c, 0x2a, 0x1b, 0xb6, 0x00, 0xa4, 0x85, 0xb5, 0x00, 0x0d, 0xa7, 0x00, 0x06, 0x4e, 0x04, 0xac, 0x03, 0xac]
def tkcL_house_0 : List UInt8 := lkcL_house_0 ++ []
theorem drcL_house_0 : (cL_house).data.toList.drop 0 = lkcL_house_0 ++ [] := by decide +kernel
theorem dL_house_0 : decode cL_house 0 = .ok (.aload_n 2, 1) := dec_44 (gB drcL_house_0 0 rfl rfl)
theorem dL_house_1 : decode cL_house 1 = .ok (.aload_n 0, 1) := dec_42 (gB drcL_house_0 1 rfl rfl)
theorem dL_house_2 : decode cL_house 2 = .ok (.iload_n 1, 1) := dec_27 (gB drcL_house_0 2 rfl rfl)
theorem dL_house_3 : decode cL_house 3 = .ok (.invokevirtual 164, 3) := e_182 (x := 0) (y := 164) drcL_house_0 3 rfl rfl
theorem dL_house_6 : decode cL_house 6 = .ok (.i2l, 1) := dec_133 (gB drcL_house_0 6 rfl rfl)
theorem dL_house_7 : decode cL_house 7 = .ok (.putfield 13, 3) := e_181 (x := 0) (y := 13) drcL_house_0 7 rfl rfl
theorem dL_house_10 : decode cL_house 10 = .ok (.goto 6, 3) := e_167 (x := 0) (y := 6) drcL_house_0 10 rfl rfl
theorem dL_house_13 : decode cL_house 13 = .ok (.astore_n 3, 1) := dec_78 (gB drcL_house_0 13 rfl rfl)
theorem dL_house_14 : decode cL_house 14 = .ok (.iconst 1, 1) := dec_4 (gB drcL_house_0 14 rfl rfl)
theorem dL_house_15 : decode cL_house 15 = .ok (.ireturn, 1) := dec_172 (gB drcL_house_0 15 rfl rfl)
theorem dL_house_16 : decode cL_house 16 = .ok (.iconst 0, 1) := dec_3 (gB drcL_house_0 16 rfl rfl)
theorem dL_house_17 : decode cL_house 17 = .ok (.ireturn, 1) := dec_172 (gB drcL_house_0 17 rfl rfl)
