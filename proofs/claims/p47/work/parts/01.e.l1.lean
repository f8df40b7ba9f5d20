theorem dL_write_0 : decode cL_write 0 = .ok (.aload_n 3, 1) := by decide +kernel
theorem dL_write_1 : decode cL_write 1 = .ok (.aload_n 0, 1) := by decide +kernel
theorem dL_write_2 : decode cL_write 2 = .ok (.iload_n 1, 1) := by decide +kernel
theorem dL_write_3 : decode cL_write 3 = .ok (.iload_n 2, 1) := by decide +kernel
theorem dL_write_4 : decode cL_write 4 = .ok (.invokevirtual 7, 3) := by decide +kernel
theorem dL_write_7 : decode cL_write 7 = .ok (.i2l, 1) := by decide +kernel
theorem dL_write_8 : decode cL_write 8 = .ok (.putfield 13, 3) := by decide +kernel
theorem dL_write_11 : decode cL_write 11 = .ok (.goto 11, 3) := by decide +kernel
theorem dL_write_14 : decode cL_write 14 = .ok (.astore 4, 2) := by decide +kernel
theorem dL_write_16 : decode cL_write 16 = .ok (.iconst 1, 1) := by decide +kernel
theorem dL_write_17 : decode cL_write 17 = .ok (.ireturn, 1) := by decide +kernel
theorem dL_write_18 : decode cL_write 18 = .ok (.astore 4, 2) := by decide +kernel
theorem dL_write_20 : decode cL_write 20 = .ok (.iconst 2, 1) := by decide +kernel
theorem dL_write_21 : decode cL_write 21 = .ok (.ireturn, 1) := by decide +kernel
theorem dL_write_22 : decode cL_write 22 = .ok (.iconst 0, 1) := by decide +kernel
theorem dL_write_23 : decode cL_write 23 = .ok (.ireturn, 1) := by decide +kernel
theorem dL_append_0 : decode cL_append 0 = .ok (.aload_n 3, 1) := by decide +kernel
theorem dL_append_1 : decode cL_append 1 = .ok (.aload_n 0, 1) := by decide +kernel
theorem dL_append_2 : decode cL_append 2 = .ok (.iload_n 1, 1) := by decide +kernel
theorem dL_append_3 : decode cL_append 3 = .ok (.iload_n 2, 1) := by decide +kernel
theorem dL_append_4 : decode cL_append 4 = .ok (.invokevirtual 23, 3) := by decide +kernel
theorem dL_append_7 : decode cL_append 7 = .ok (.i2l, 1) := by decide +kernel
theorem dL_append_8 : decode cL_append 8 = .ok (.putfield 13, 3) := by decide +kernel
theorem dL_append_11 : decode cL_append 11 = .ok (.goto 7, 3) := by decide +kernel
theorem dL_append_14 : decode cL_append 14 = .ok (.astore 4, 2) := by decide +kernel
theorem dL_append_16 : decode cL_append 16 = .ok (.iconst 1, 1) := by decide +kernel
theorem dL_append_17 : decode cL_append 17 = .ok (.ireturn, 1) := by decide +kernel
theorem dL_append_18 : decode cL_append 18 = .ok (.iconst 0, 1) := by decide +kernel
theorem dL_append_19 : decode cL_append 19 = .ok (.ireturn, 1) := by decide +kernel
theorem dL_insertSign_0 : decode cL_insertSign 0 = .ok (.aload 4, 2) := by decide +kernel
theorem dL_insertSign_2 : decode cL_insertSign 2 = .ok (.aload_n 0, 1) := by decide +kernel
theorem dL_insertSign_3 : decode cL_insertSign 3 = .ok (.iload_n 1, 1) := by decide +kernel
theorem dL_insertSign_4 : decode cL_insertSign 4 = .ok (.iload_n 2, 1) := by decide +kernel
theorem dL_insertSign_5 : decode cL_insertSign 5 = .ok (.iload_n 3, 1) := by decide +kernel
theorem dL_insertSign_6 : decode cL_insertSign 6 = .ok (.invokevirtual 26, 3) := by decide +kernel
theorem dL_insertSign_9 : decode cL_insertSign 9 = .ok (.i2l, 1) := by decide +kernel
theorem dL_insertSign_10 : decode cL_insertSign 10 = .ok (.putfield 13, 3) := by decide +kernel
theorem dL_insertSign_13 : decode cL_insertSign 13 = .ok (.goto 7, 3) := by decide +kernel
theorem dL_insertSign_16 : decode cL_insertSign 16 = .ok (.astore 5, 2) := by decide +kernel
theorem dL_insertSign_18 : decode cL_insertSign 18 = .ok (.iconst 1, 1) := by decide +kernel
theorem dL_insertSign_19 : decode cL_insertSign 19 = .ok (.ireturn, 1) := by decide +kernel
theorem dL_insertSign_20 : decode cL_insertSign 20 = .ok (.iconst 0, 1) := by decide +kernel
theorem dL_insertSign_21 : decode cL_insertSign 21 = .ok (.ireturn, 1) := by decide +kernel
theorem dL_insertSheet_0 : decode cL_insertSheet 0 = .ok (.aload 4, 2) := by decide +kernel
theorem dL_insertSheet_2 : decode cL_insertSheet 2 = .ok (.aload_n 0, 1) := by decide +kernel
theorem dL_insertSheet_3 : decode cL_insertSheet 3 = .ok (.iload_n 1, 1) := by decide +kernel
theorem dL_insertSheet_4 : decode cL_insertSheet 4 = .ok (.iload_n 2, 1) := by decide +kernel
theorem dL_insertSheet_5 : decode cL_insertSheet 5 = .ok (.iload_n 3, 1) := by decide +kernel
theorem dL_insertSheet_6 : decode cL_insertSheet 6 = .ok (.invokevirtual 30, 3) := by decide +kernel
theorem dL_insertSheet_9 : decode cL_insertSheet 9 = .ok (.i2l, 1) := by decide +kernel
theorem dL_insertSheet_10 : decode cL_insertSheet 10 = .ok (.putfield 13, 3) := by decide +kernel
theorem dL_insertSheet_13 : decode cL_insertSheet 13 = .ok (.goto 7, 3) := by decide +kernel
theorem dL_insertSheet_16 : decode cL_insertSheet 16 = .ok (.astore 5, 2) := by decide +kernel
theorem dL_insertSheet_18 : decode cL_insertSheet 18 = .ok (.iconst 1, 1) := by decide +kernel
theorem dL_insertSheet_19 : decode cL_insertSheet 19 = .ok (.ireturn, 1) := by decide +kernel
theorem dL_insertSheet_20 : decode cL_insertSheet 20 = .ok (.iconst 0, 1) := by decide +kernel
theorem dL_insertSheet_21 : decode cL_insertSheet 21 = .ok (.ireturn, 1) := by decide +kernel
theorem dL_setSign_0 : decode cL_setSign 0 = .ok (.aload 4, 2) := by decide +kernel
theorem dL_setSign_2 : decode cL_setSign 2 = .ok (.aload_n 0, 1) := by decide +kernel
theorem dL_setSign_3 : decode cL_setSign 3 = .ok (.iload_n 1, 1) := by decide +kernel
theorem dL_setSign_4 : decode cL_setSign 4 = .ok (.iload_n 2, 1) := by decide +kernel
theorem dL_setSign_5 : decode cL_setSign 5 = .ok (.iload_n 3, 1) := by decide +kernel
theorem dL_setSign_6 : decode cL_setSign 6 = .ok (.invokevirtual 34, 3) := by decide +kernel
theorem dL_setSign_9 : decode cL_setSign 9 = .ok (.i2l, 1) := by decide +kernel
theorem dL_setSign_10 : decode cL_setSign 10 = .ok (.putfield 13, 3) := by decide +kernel
theorem dL_setSign_13 : decode cL_setSign 13 = .ok (.goto 7, 3) := by decide +kernel
theorem dL_setSign_16 : decode cL_setSign 16 = .ok (.astore 5, 2) := by decide +kernel
theorem dL_setSign_18 : decode cL_setSign 18 = .ok (.iconst 1, 1) := by decide +kernel
theorem dL_setSign_19 : decode cL_setSign 19 = .ok (.ireturn, 1) := by decide +kernel
theorem dL_setSign_20 : decode cL_setSign 20 = .ok (.iconst 0, 1) := by decide +kernel
theorem dL_setSign_21 : decode cL_setSign 21 = .ok (.ireturn, 1) := by decide +kernel
theorem dL_removeSign_0 : decode cL_removeSign 0 = .ok (.aload_n 3, 1) := by decide +kernel
theorem dL_removeSign_1 : decode cL_removeSign 1 = .ok (.aload_n 0, 1) := by decide +kernel
theorem dL_removeSign_2 : decode cL_removeSign 2 = .ok (.iload_n 1, 1) := by decide +kernel
theorem dL_removeSign_3 : decode cL_removeSign 3 = .ok (.iload_n 2, 1) := by decide +kernel
theorem dL_removeSign_4 : decode cL_removeSign 4 = .ok (.invokevirtual 37, 3) := by decide +kernel
theorem dL_removeSign_7 : decode cL_removeSign 7 = .ok (.i2l, 1) := by decide +kernel
theorem dL_removeSign_8 : decode cL_removeSign 8 = .ok (.putfield 13, 3) := by decide +kernel
theorem dL_removeSign_11 : decode cL_removeSign 11 = .ok (.goto 7, 3) := by decide +kernel
theorem dL_removeSign_14 : decode cL_removeSign 14 = .ok (.astore 4, 2) := by decide +kernel
theorem dL_removeSign_16 : decode cL_removeSign 16 = .ok (.iconst 1, 1) := by decide +kernel
theorem dL_removeSign_17 : decode cL_removeSign 17 = .ok (.ireturn, 1) := by decide +kernel
theorem dL_removeSign_18 : decode cL_removeSign 18 = .ok (.iconst 0, 1) := by decide +kernel
theorem dL_removeSign_19 : decode cL_removeSign 19 = .ok (.ireturn, 1) := by decide +kernel
theorem dL_remove_0 : decode cL_remove 0 = .ok (.aload 4, 2) := by decide +kernel
theorem dL_remove_2 : decode cL_remove 2 = .ok (.aload_n 0, 1) := by decide +kernel
theorem dL_remove_3 : decode cL_remove 3 = .ok (.iload_n 1, 1) := by decide +kernel
theorem dL_remove_4 : decode cL_remove 4 = .ok (.iload_n 2, 1) := by decide +kernel
theorem dL_remove_5 : decode cL_remove 5 = .ok (.iload_n 3, 1) := by decide +kernel
theorem dL_remove_6 : decode cL_remove 6 = .ok (.invokevirtual 40, 3) := by decide +kernel
theorem dL_remove_9 : decode cL_remove 9 = .ok (.i2l, 1) := by decide +kernel
theorem dL_remove_10 : decode cL_remove 10 = .ok (.putfield 13, 3) := by decide +kernel
theorem dL_remove_13 : decode cL_remove 13 = .ok (.goto 7, 3) := by decide +kernel
theorem dL_remove_16 : decode cL_remove 16 = .ok (.astore 5, 2) := by decide +kernel
theorem dL_remove_18 : decode cL_remove 18 = .ok (.iconst 1, 1) := by decide +kernel
theorem dL_remove_19 : decode cL_remove 19 = .ok (.ireturn, 1) := by decide +kernel
theorem dL_remove_20 : decode cL_remove 20 = .ok (.iconst 0, 1) := by decide +kernel
theorem dL_remove_21 : decode cL_remove 21 = .ok (.ireturn, 1) := by decide +kernel
theorem dL_replace_0 : decode cL_replace 0 = .ok (.aload 5, 2) := by decide +kernel
theorem dL_replace_2 : decode cL_replace 2 = .ok (.aload_n 0, 1) := by decide +kernel
theorem dL_replace_3 : decode cL_replace 3 = .ok (.iload_n 1, 1) := by decide +kernel
theorem dL_replace_4 : decode cL_replace 4 = .ok (.iload_n 2, 1) := by decide +kernel
theorem dL_replace_5 : decode cL_replace 5 = .ok (.iload_n 3, 1) := by decide +kernel
theorem dL_replace_6 : decode cL_replace 6 = .ok (.iload 4, 2) := by decide +kernel
theorem dL_replace_8 : decode cL_replace 8 = .ok (.invokevirtual 43, 3) := by decide +kernel
theorem dL_replace_11 : decode cL_replace 11 = .ok (.i2l, 1) := by decide +kernel
theorem dL_replace_12 : decode cL_replace 12 = .ok (.putfield 13, 3) := by decide +kernel
theorem dL_replace_15 : decode cL_replace 15 = .ok (.goto 7, 3) := by decide +kernel
theorem dL_replace_18 : decode cL_replace 18 = .ok (.astore 6, 2) := by decide +kernel
theorem dL_replace_20 : decode cL_replace 20 = .ok (.iconst 1, 1) := by decide +kernel
theorem dL_replace_21 : decode cL_replace 21 = .ok (.ireturn, 1) := by decide +kernel
theorem dL_replace_22 : decode cL_replace 22 = .ok (.iconst 0, 1) := by decide +kernel
theorem dL_replace_23 : decode cL_replace 23 = .ok (.ireturn, 1) := by decide +kernel
theorem dL_cutTo_0 : decode cL_cutTo 0 = .ok (.aload_n 3, 1) := by decide +kernel
theorem dL_cutTo_1 : decode cL_cutTo 1 = .ok (.aload_n 0, 1) := by decide +kernel
theorem dL_cutTo_2 : decode cL_cutTo 2 = .ok (.iload_n 1, 1) := by decide +kernel
theorem dL_cutTo_3 : decode cL_cutTo 3 = .ok (.iload_n 2, 1) := by decide +kernel
theorem dL_cutTo_4 : decode cL_cutTo 4 = .ok (.invokevirtual 47, 3) := by decide +kernel
theorem dL_cutTo_7 : decode cL_cutTo 7 = .ok (.i2l, 1) := by decide +kernel
theorem dL_cutTo_8 : decode cL_cutTo 8 = .ok (.putfield 13, 3) := by decide +kernel
theorem dL_cutTo_11 : decode cL_cutTo 11 = .ok (.goto 11, 3) := by decide +kernel
theorem dL_cutTo_14 : decode cL_cutTo 14 = .ok (.astore 4, 2) := by decide +kernel
theorem dL_cutTo_16 : decode cL_cutTo 16 = .ok (.iconst 1, 1) := by decide +kernel
theorem dL_cutTo_17 : decode cL_cutTo 17 = .ok (.ireturn, 1) := by decide +kernel
theorem dL_cutTo_18 : decode cL_cutTo 18 = .ok (.astore 4, 2) := by decide +kernel
theorem dL_cutTo_20 : decode cL_cutTo 20 = .ok (.iconst 2, 1) := by decide +kernel
theorem dL_cutTo_21 : decode cL_cutTo 21 = .ok (.ireturn, 1) := by decide +kernel
theorem dL_cutTo_22 : decode cL_cutTo 22 = .ok (.iconst 0, 1) := by decide +kernel
theorem dL_cutTo_23 : decode cL_cutTo 23 = .ok (.ireturn, 1) := by decide +kernel
theorem dL_turn_0 : decode cL_turn 0 = .ok (.aload_n 2, 1) := by decide +kernel
theorem dL_turn_1 : decode cL_turn 1 = .ok (.aload_n 0, 1) := by decide +kernel
theorem dL_turn_2 : decode cL_turn 2 = .ok (.iload_n 1, 1) := by decide +kernel
theorem dL_turn_3 : decode cL_turn 3 = .ok (.invokevirtual 50, 3) := by decide +kernel
theorem dL_turn_6 : decode cL_turn 6 = .ok (.i2l, 1) := by decide +kernel
theorem dL_turn_7 : decode cL_turn 7 = .ok (.putfield 13, 3) := by decide +kernel
theorem dL_turn_10 : decode cL_turn 10 = .ok (.goto 6, 3) := by decide +kernel
theorem dL_turn_13 : decode cL_turn 13 = .ok (.astore_n 3, 1) := by decide +kernel
theorem dL_turn_14 : decode cL_turn 14 = .ok (.iconst 1, 1) := by decide +kernel
theorem dL_turn_15 : decode cL_turn 15 = .ok (.ireturn, 1) := by decide +kernel
theorem dL_turn_16 : decode cL_turn 16 = .ok (.iconst 0, 1) := by decide +kernel
theorem dL_turn_17 : decode cL_turn 17 = .ok (.ireturn, 1) := by decide +kernel
theorem dL_exchange_0 : decode cL_exchange 0 = .ok (.aload_n 2, 1) := by decide +kernel
theorem dL_exchange_1 : decode cL_exchange 1 = .ok (.aload_n 0, 1) := by decide +kernel
theorem dL_exchange_2 : decode cL_exchange 2 = .ok (.iload_n 1, 1) := by decide +kernel
theorem dL_exchange_3 : decode cL_exchange 3 = .ok (.invokevirtual 54, 3) := by decide +kernel
theorem dL_exchange_6 : decode cL_exchange 6 = .ok (.i2l, 1) := by decide +kernel
theorem dL_exchange_7 : decode cL_exchange 7 = .ok (.putfield 13, 3) := by decide +kernel
theorem dL_exchange_10 : decode cL_exchange 10 = .ok (.goto 6, 3) := by decide +kernel
theorem dL_exchange_13 : decode cL_exchange 13 = .ok (.astore_n 3, 1) := by decide +kernel
theorem dL_exchange_14 : decode cL_exchange 14 = .ok (.iconst 1, 1) := by decide +kernel
theorem dL_exchange_15 : decode cL_exchange 15 = .ok (.ireturn, 1) := by decide +kernel
theorem dL_exchange_16 : decode cL_exchange 16 = .ok (.iconst 0, 1) := by decide +kernel
theorem dL_exchange_17 : decode cL_exchange 17 = .ok (.ireturn, 1) := by decide +kernel
theorem dL_rotate_0 : decode cL_rotate 0 = .ok (.aload_n 3, 1) := by decide +kernel
theorem dL_rotate_1 : decode cL_rotate 1 = .ok (.aload_n 0, 1) := by decide +kernel
theorem dL_rotate_2 : decode cL_rotate 2 = .ok (.iload_n 1, 1) := by decide +kernel
theorem dL_rotate_3 : decode cL_rotate 3 = .ok (.iload_n 2, 1) := by decide +kernel
theorem dL_rotate_4 : decode cL_rotate 4 = .ok (.invokevirtual 57, 3) := by decide +kernel
theorem dL_rotate_7 : decode cL_rotate 7 = .ok (.i2l, 1) := by decide +kernel
theorem dL_rotate_8 : decode cL_rotate 8 = .ok (.putfield 13, 3) := by decide +kernel
theorem dL_rotate_11 : decode cL_rotate 11 = .ok (.goto 11, 3) := by decide +kernel
theorem dL_rotate_14 : decode cL_rotate 14 = .ok (.astore 4, 2) := by decide +kernel
theorem dL_rotate_16 : decode cL_rotate 16 = .ok (.iconst 1, 1) := by decide +kernel
theorem dL_rotate_17 : decode cL_rotate 17 = .ok (.ireturn, 1) := by decide +kernel
theorem dL_rotate_18 : decode cL_rotate 18 = .ok (.astore 4, 2) := by decide +kernel
theorem dL_rotate_20 : decode cL_rotate 20 = .ok (.iconst 2, 1) := by decide +kernel
theorem dL_rotate_21 : decode cL_rotate 21 = .ok (.ireturn, 1) := by decide +kernel
theorem dL_rotate_22 : decode cL_rotate 22 = .ok (.iconst 0, 1) := by decide +kernel
theorem dL_rotate_23 : decode cL_rotate 23 = .ok (.ireturn, 1) := by decide +kernel
theorem dL_copy_0 : decode cL_copy 0 = .ok (.aload_n 3, 1) := by decide +kernel
theorem dL_copy_1 : decode cL_copy 1 = .ok (.aload_n 0, 1) := by decide +kernel
theorem dL_copy_2 : decode cL_copy 2 = .ok (.iload_n 1, 1) := by decide +kernel
theorem dL_copy_3 : decode cL_copy 3 = .ok (.iload_n 2, 1) := by decide +kernel
theorem dL_copy_4 : decode cL_copy 4 = .ok (.invokevirtual 60, 3) := by decide +kernel
theorem dL_copy_7 : decode cL_copy 7 = .ok (.i2l, 1) := by decide +kernel
theorem dL_copy_8 : decode cL_copy 8 = .ok (.putfield 13, 3) := by decide +kernel
theorem dL_copy_11 : decode cL_copy 11 = .ok (.goto 7, 3) := by decide +kernel
theorem dL_copy_14 : decode cL_copy 14 = .ok (.astore 4, 2) := by decide +kernel
theorem dL_copy_16 : decode cL_copy 16 = .ok (.iconst 1, 1) := by decide +kernel
theorem dL_copy_17 : decode cL_copy 17 = .ok (.ireturn, 1) := by decide +kernel
theorem dL_copy_18 : decode cL_copy 18 = .ok (.iconst 0, 1) := by decide +kernel
theorem dL_copy_19 : decode cL_copy 19 = .ok (.ireturn, 1) := by decide +kernel
theorem dL_apply_0 : decode cL_apply 0 = .ok (.aload 4, 2) := by decide +kernel
theorem dL_apply_2 : decode cL_apply 2 = .ok (.aload_n 0, 1) := by decide +kernel
theorem dL_apply_3 : decode cL_apply 3 = .ok (.iload_n 1, 1) := by decide +kernel
theorem dL_apply_4 : decode cL_apply 4 = .ok (.iload_n 2, 1) := by decide +kernel
theorem dL_apply_5 : decode cL_apply 5 = .ok (.iload_n 3, 1) := by decide +kernel
theorem dL_apply_6 : decode cL_apply 6 = .ok (.invokevirtual 63, 3) := by decide +kernel
theorem dL_apply_9 : decode cL_apply 9 = .ok (.i2l, 1) := by decide +kernel
theorem dL_apply_10 : decode cL_apply 10 = .ok (.putfield 13, 3) := by decide +kernel
theorem dL_apply_13 : decode cL_apply 13 = .ok (.goto 11, 3) := by decide +kernel
theorem dL_apply_16 : decode cL_apply 16 = .ok (.astore 5, 2) := by decide +kernel
theorem dL_apply_18 : decode cL_apply 18 = .ok (.iconst 1, 1) := by decide +kernel
theorem dL_apply_19 : decode cL_apply 19 = .ok (.ireturn, 1) := by decide +kernel
theorem dL_apply_20 : decode cL_apply 20 = .ok (.astore 5, 2) := by decide +kernel
theorem dL_apply_22 : decode cL_apply 22 = .ok (.iconst 2, 1) := by decide +kernel
theorem dL_apply_23 : decode cL_apply 23 = .ok (.ireturn, 1) := by decide +kernel
theorem dL_apply_24 : decode cL_apply 24 = .ok (.iconst 0, 1) := by decide +kernel
theorem dL_apply_25 : decode cL_apply 25 = .ok (.ireturn, 1) := by decide +kernel
theorem dL_undo_0 : decode cL_undo 0 = .ok (.aload 4, 2) := by decide +kernel
theorem dL_undo_2 : decode cL_undo 2 = .ok (.aload_n 0, 1) := by decide +kernel
theorem dL_undo_3 : decode cL_undo 3 = .ok (.iload_n 1, 1) := by decide +kernel
theorem dL_undo_4 : decode cL_undo 4 = .ok (.iload_n 2, 1) := by decide +kernel
theorem dL_undo_5 : decode cL_undo 5 = .ok (.iload_n 3, 1) := by decide +kernel
theorem dL_undo_6 : decode cL_undo 6 = .ok (.invokevirtual 66, 3) := by decide +kernel
theorem dL_undo_9 : decode cL_undo 9 = .ok (.i2l, 1) := by decide +kernel
theorem dL_undo_10 : decode cL_undo 10 = .ok (.putfield 13, 3) := by decide +kernel
theorem dL_undo_13 : decode cL_undo 13 = .ok (.goto 15, 3) := by decide +kernel
theorem dL_undo_16 : decode cL_undo 16 = .ok (.astore 5, 2) := by decide +kernel
theorem dL_undo_18 : decode cL_undo 18 = .ok (.iconst 1, 1) := by decide +kernel
theorem dL_undo_19 : decode cL_undo 19 = .ok (.ireturn, 1) := by decide +kernel
theorem dL_undo_20 : decode cL_undo 20 = .ok (.astore 5, 2) := by decide +kernel
theorem dL_undo_22 : decode cL_undo 22 = .ok (.iconst 2, 1) := by decide +kernel
theorem dL_undo_23 : decode cL_undo 23 = .ok (.ireturn, 1) := by decide +kernel
theorem dL_undo_24 : decode cL_undo 24 = .ok (.astore 5, 2) := by decide +kernel
theorem dL_undo_26 : decode cL_undo 26 = .ok (.iconst 3, 1) := by decide +kernel
theorem dL_undo_27 : decode cL_undo 27 = .ok (.ireturn, 1) := by decide +kernel
theorem dL_undo_28 : decode cL_undo 28 = .ok (.iconst 0, 1) := by decide +kernel
theorem dL_undo_29 : decode cL_undo 29 = .ok (.ireturn, 1) := by decide +kernel
theorem dL_lay_0 : decode cL_lay 0 = .ok (.aload 4, 2) := by decide +kernel
theorem dL_lay_2 : decode cL_lay 2 = .ok (.aload_n 0, 1) := by decide +kernel
theorem dL_lay_3 : decode cL_lay 3 = .ok (.iload_n 1, 1) := by decide +kernel
theorem dL_lay_4 : decode cL_lay 4 = .ok (.iload_n 2, 1) := by decide +kernel
theorem dL_lay_5 : decode cL_lay 5 = .ok (.iload_n 3, 1) := by decide +kernel
theorem dL_lay_6 : decode cL_lay 6 = .ok (.invokevirtual 71, 3) := by decide +kernel
theorem dL_lay_9 : decode cL_lay 9 = .ok (.i2l, 1) := by decide +kernel
theorem dL_lay_10 : decode cL_lay 10 = .ok (.putfield 13, 3) := by decide +kernel
theorem dL_lay_13 : decode cL_lay 13 = .ok (.goto 11, 3) := by decide +kernel
theorem dL_lay_16 : decode cL_lay 16 = .ok (.astore 5, 2) := by decide +kernel
theorem dL_lay_18 : decode cL_lay 18 = .ok (.iconst 1, 1) := by decide +kernel
theorem dL_lay_19 : decode cL_lay 19 = .ok (.ireturn, 1) := by decide +kernel
theorem dL_lay_20 : decode cL_lay 20 = .ok (.astore 5, 2) := by decide +kernel
theorem dL_lay_22 : decode cL_lay 22 = .ok (.iconst 2, 1) := by decide +kernel
theorem dL_lay_23 : decode cL_lay 23 = .ok (.ireturn, 1) := by decide +kernel
theorem dL_lay_24 : decode cL_lay 24 = .ok (.iconst 0, 1) := by decide +kernel
theorem dL_lay_25 : decode cL_lay 25 = .ok (.ireturn, 1) := by decide +kernel
theorem dL_twos_0 : decode cL_twos 0 = .ok (.aload 4, 2) := by decide +kernel
theorem dL_twos_2 : decode cL_twos 2 = .ok (.aload_n 0, 1) := by decide +kernel
theorem dL_twos_3 : decode cL_twos 3 = .ok (.iload_n 1, 1) := by decide +kernel
theorem dL_twos_4 : decode cL_twos 4 = .ok (.iload_n 2, 1) := by decide +kernel
theorem dL_twos_5 : decode cL_twos 5 = .ok (.iload_n 3, 1) := by decide +kernel
theorem dL_twos_6 : decode cL_twos 6 = .ok (.invokevirtual 74, 3) := by decide +kernel
theorem dL_twos_9 : decode cL_twos 9 = .ok (.i2l, 1) := by decide +kernel
theorem dL_twos_10 : decode cL_twos 10 = .ok (.putfield 13, 3) := by decide +kernel
theorem dL_twos_13 : decode cL_twos 13 = .ok (.goto 11, 3) := by decide +kernel
theorem dL_twos_16 : decode cL_twos 16 = .ok (.astore 5, 2) := by decide +kernel
theorem dL_twos_18 : decode cL_twos 18 = .ok (.iconst 1, 1) := by decide +kernel
theorem dL_twos_19 : decode cL_twos 19 = .ok (.ireturn, 1) := by decide +kernel
theorem dL_twos_20 : decode cL_twos 20 = .ok (.astore 5, 2) := by decide +kernel
theorem dL_twos_22 : decode cL_twos 22 = .ok (.iconst 2, 1) := by decide +kernel
theorem dL_twos_23 : decode cL_twos 23 = .ok (.ireturn, 1) := by decide +kernel
theorem dL_twos_24 : decode cL_twos 24 = .ok (.iconst 0, 1) := by decide +kernel
theorem dL_twos_25 : decode cL_twos 25 = .ok (.ireturn, 1) := by decide +kernel
theorem dL_line_0 : decode cL_line 0 = .ok (.aload 5, 2) := by decide +kernel
theorem dL_line_2 : decode cL_line 2 = .ok (.aload_n 0, 1) := by decide +kernel
theorem dL_line_3 : decode cL_line 3 = .ok (.iload_n 1, 1) := by decide +kernel
theorem dL_line_4 : decode cL_line 4 = .ok (.iload_n 2, 1) := by decide +kernel
theorem dL_line_5 : decode cL_line 5 = .ok (.iload_n 3, 1) := by decide +kernel
theorem dL_line_6 : decode cL_line 6 = .ok (.iload 4, 2) := by decide +kernel
theorem dL_line_8 : decode cL_line 8 = .ok (.invokevirtual 77, 3) := by decide +kernel
theorem dL_line_11 : decode cL_line 11 = .ok (.i2l, 1) := by decide +kernel
theorem dL_line_12 : decode cL_line 12 = .ok (.putfield 13, 3) := by decide +kernel
theorem dL_line_15 : decode cL_line 15 = .ok (.goto 11, 3) := by decide +kernel
theorem dL_line_18 : decode cL_line 18 = .ok (.astore 6, 2) := by decide +kernel
theorem dL_line_20 : decode cL_line 20 = .ok (.iconst 1, 1) := by decide +kernel
theorem dL_line_21 : decode cL_line 21 = .ok (.ireturn, 1) := by decide +kernel
theorem dL_line_22 : decode cL_line 22 = .ok (.astore 6, 2) := by decide +kernel
theorem dL_line_24 : decode cL_line 24 = .ok (.iconst 2, 1) := by decide +kernel
theorem dL_line_25 : decode cL_line 25 = .ok (.ireturn, 1) := by decide +kernel
theorem dL_line_26 : decode cL_line 26 = .ok (.iconst 0, 1) := by decide +kernel
theorem dL_line_27 : decode cL_line 27 = .ok (.ireturn, 1) := by decide +kernel
theorem dL_grow_0 : decode cL_grow 0 = .ok (.aload_n 3, 1) := by decide +kernel
theorem dL_grow_1 : decode cL_grow 1 = .ok (.aload_n 0, 1) := by decide +kernel
theorem dL_grow_2 : decode cL_grow 2 = .ok (.iload_n 1, 1) := by decide +kernel
theorem dL_grow_3 : decode cL_grow 3 = .ok (.iload_n 2, 1) := by decide +kernel
theorem dL_grow_4 : decode cL_grow 4 = .ok (.invokevirtual 80, 3) := by decide +kernel
theorem dL_grow_7 : decode cL_grow 7 = .ok (.i2l, 1) := by decide +kernel
theorem dL_grow_8 : decode cL_grow 8 = .ok (.putfield 13, 3) := by decide +kernel
theorem dL_grow_11 : decode cL_grow 11 = .ok (.goto 11, 3) := by decide +kernel
theorem dL_grow_14 : decode cL_grow 14 = .ok (.astore 4, 2) := by decide +kernel
theorem dL_grow_16 : decode cL_grow 16 = .ok (.iconst 1, 1) := by decide +kernel
theorem dL_grow_17 : decode cL_grow 17 = .ok (.ireturn, 1) := by decide +kernel
theorem dL_grow_18 : decode cL_grow 18 = .ok (.astore 4, 2) := by decide +kernel
theorem dL_grow_20 : decode cL_grow 20 = .ok (.iconst 2, 1) := by decide +kernel
theorem dL_grow_21 : decode cL_grow 21 = .ok (.ireturn, 1) := by decide +kernel
theorem dL_grow_22 : decode cL_grow 22 = .ok (.iconst 0, 1) := by decide +kernel
theorem dL_grow_23 : decode cL_grow 23 = .ok (.ireturn, 1) := by decide +kernel
theorem dL_shrink_0 : decode cL_shrink 0 = .ok (.aload_n 2, 1) := by decide +kernel
theorem dL_shrink_1 : decode cL_shrink 1 = .ok (.aload_n 0, 1) := by decide +kernel
theorem dL_shrink_2 : decode cL_shrink 2 = .ok (.iload_n 1, 1) := by decide +kernel
theorem dL_shrink_3 : decode cL_shrink 3 = .ok (.invokevirtual 83, 3) := by decide +kernel
theorem dL_shrink_6 : decode cL_shrink 6 = .ok (.i2l, 1) := by decide +kernel
theorem dL_shrink_7 : decode cL_shrink 7 = .ok (.putfield 13, 3) := by decide +kernel
theorem dL_shrink_10 : decode cL_shrink 10 = .ok (.goto 9, 3) := by decide +kernel
theorem dL_shrink_13 : decode cL_shrink 13 = .ok (.astore_n 3, 1) := by decide +kernel
theorem dL_shrink_14 : decode cL_shrink 14 = .ok (.iconst 1, 1) := by decide +kernel
theorem dL_shrink_15 : decode cL_shrink 15 = .ok (.ireturn, 1) := by decide +kernel
theorem dL_shrink_16 : decode cL_shrink 16 = .ok (.astore_n 3, 1) := by decide +kernel
theorem dL_shrink_17 : decode cL_shrink 17 = .ok (.iconst 2, 1) := by decide +kernel
theorem dL_shrink_18 : decode cL_shrink 18 = .ok (.ireturn, 1) := by decide +kernel
theorem dL_shrink_19 : decode cL_shrink 19 = .ok (.iconst 0, 1) := by decide +kernel
theorem dL_shrink_20 : decode cL_shrink 20 = .ok (.ireturn, 1) := by decide +kernel
theorem dL_fresh_0 : decode cL_fresh 0 = .ok (.aload_n 2, 1) := by decide +kernel
theorem dL_fresh_1 : decode cL_fresh 1 = .ok (.aload_n 0, 1) := by decide +kernel
theorem dL_fresh_2 : decode cL_fresh 2 = .ok (.iload_n 1, 1) := by decide +kernel
theorem dL_fresh_3 : decode cL_fresh 3 = .ok (.invokevirtual 86, 3) := by decide +kernel
theorem dL_fresh_6 : decode cL_fresh 6 = .ok (.i2l, 1) := by decide +kernel
theorem dL_fresh_7 : decode cL_fresh 7 = .ok (.putfield 13, 3) := by decide +kernel
theorem dL_fresh_10 : decode cL_fresh 10 = .ok (.goto 6, 3) := by decide +kernel
theorem dL_fresh_13 : decode cL_fresh 13 = .ok (.astore_n 3, 1) := by decide +kernel
theorem dL_fresh_14 : decode cL_fresh 14 = .ok (.iconst 1, 1) := by decide +kernel
theorem dL_fresh_15 : decode cL_fresh 15 = .ok (.ireturn, 1) := by decide +kernel
theorem dL_fresh_16 : decode cL_fresh 16 = .ok (.iconst 0, 1) := by decide +kernel
theorem dL_fresh_17 : decode cL_fresh 17 = .ok (.ireturn, 1) := by decide +kernel
theorem dL_length_0 : decode cL_length 0 = .ok (.aload_n 2, 1) := by decide +kernel
theorem dL_length_1 : decode cL_length 1 = .ok (.aload_n 0, 1) := by decide +kernel
theorem dL_length_2 : decode cL_length 2 = .ok (.iload_n 1, 1) := by decide +kernel
theorem dL_length_3 : decode cL_length 3 = .ok (.invokevirtual 89, 3) := by decide +kernel
theorem dL_length_6 : decode cL_length 6 = .ok (.i2l, 1) := by decide +kernel
theorem dL_length_7 : decode cL_length 7 = .ok (.putfield 13, 3) := by decide +kernel
theorem dL_length_10 : decode cL_length 10 = .ok (.goto 6, 3) := by decide +kernel
theorem dL_length_13 : decode cL_length 13 = .ok (.astore_n 3, 1) := by decide +kernel
theorem dL_length_14 : decode cL_length 14 = .ok (.iconst 1, 1) := by decide +kernel
theorem dL_length_15 : decode cL_length 15 = .ok (.ireturn, 1) := by decide +kernel
theorem dL_length_16 : decode cL_length 16 = .ok (.iconst 0, 1) := by decide +kernel
theorem dL_length_17 : decode cL_length 17 = .ok (.ireturn, 1) := by decide +kernel
theorem dL_isB_0 : decode cL_isB 0 = .ok (.aload_n 3, 1) := by decide +kernel
theorem dL_isB_1 : decode cL_isB 1 = .ok (.aload_n 0, 1) := by decide +kernel
theorem dL_isB_2 : decode cL_isB 2 = .ok (.iload_n 1, 1) := by decide +kernel
theorem dL_isB_3 : decode cL_isB 3 = .ok (.iload_n 2, 1) := by decide +kernel
theorem dL_isB_4 : decode cL_isB 4 = .ok (.invokevirtual 92, 3) := by decide +kernel
theorem dL_isB_7 : decode cL_isB 7 = .ok (.ifCond .eq 7, 3) := by decide +kernel
theorem dL_isB_10 : decode cL_isB 10 = .ok (.lconst 1, 1) := by decide +kernel
theorem dL_isB_11 : decode cL_isB 11 = .ok (.goto 4, 3) := by decide +kernel
theorem dL_isB_14 : decode cL_isB 14 = .ok (.lconst 0, 1) := by decide +kernel
theorem dL_isB_15 : decode cL_isB 15 = .ok (.putfield 13, 3) := by decide +kernel
theorem dL_isB_18 : decode cL_isB 18 = .ok (.goto 7, 3) := by decide +kernel
theorem dL_isB_21 : decode cL_isB 21 = .ok (.astore 4, 2) := by decide +kernel
theorem dL_isB_23 : decode cL_isB 23 = .ok (.iconst 1, 1) := by decide +kernel
theorem dL_isB_24 : decode cL_isB 24 = .ok (.ireturn, 1) := by decide +kernel
theorem dL_isB_25 : decode cL_isB 25 = .ok (.iconst 0, 1) := by decide +kernel
theorem dL_isB_26 : decode cL_isB 26 = .ok (.ireturn, 1) := by decide +kernel
theorem dL_text_0 : decode cL_text 0 = .ok (.aload_n 2, 1) := by decide +kernel
theorem dL_text_1 : decode cL_text 1 = .ok (.aload_n 0, 1) := by decide +kernel
theorem dL_text_2 : decode cL_text 2 = .ok (.iload_n 1, 1) := by decide +kernel
theorem dL_text_3 : decode cL_text 3 = .ok (.invokevirtual 96, 3) := by decide +kernel
theorem dL_text_6 : decode cL_text 6 = .ok (.putfield 100, 3) := by decide +kernel
theorem dL_text_9 : decode cL_text 9 = .ok (.goto 6, 3) := by decide +kernel
theorem dL_text_12 : decode cL_text 12 = .ok (.astore_n 3, 1) := by decide +kernel
theorem dL_text_13 : decode cL_text 13 = .ok (.iconst 1, 1) := by decide +kernel
theorem dL_text_14 : decode cL_text 14 = .ok (.ireturn, 1) := by decide +kernel
theorem dL_text_15 : decode cL_text 15 = .ok (.iconst 0, 1) := by decide +kernel
theorem dL_text_16 : decode cL_text 16 = .ok (.ireturn, 1) := by decide +kernel
theorem dL_count_0 : decode cL_count 0 = .ok (.aload_n 3, 1) := by decide +kernel
theorem dL_count_1 : decode cL_count 1 = .ok (.aload_n 0, 1) := by decide +kernel
theorem dL_count_2 : decode cL_count 2 = .ok (.iload_n 1, 1) := by decide +kernel
theorem dL_count_3 : decode cL_count 3 = .ok (.iload_n 2, 1) := by decide +kernel
theorem dL_count_4 : decode cL_count 4 = .ok (.invokevirtual 104, 3) := by decide +kernel
theorem dL_count_7 : decode cL_count 7 = .ok (.i2l, 1) := by decide +kernel
theorem dL_count_8 : decode cL_count 8 = .ok (.putfield 13, 3) := by decide +kernel
theorem dL_count_11 : decode cL_count 11 = .ok (.goto 7, 3) := by decide +kernel
theorem dL_count_14 : decode cL_count 14 = .ok (.astore 4, 2) := by decide +kernel
theorem dL_count_16 : decode cL_count 16 = .ok (.iconst 1, 1) := by decide +kernel
theorem dL_count_17 : decode cL_count 17 = .ok (.ireturn, 1) := by decide +kernel
theorem dL_count_18 : decode cL_count 18 = .ok (.iconst 0, 1) := by decide +kernel
theorem dL_count_19 : decode cL_count 19 = .ok (.ireturn, 1) := by decide +kernel
theorem dL_find_0 : decode cL_find 0 = .ok (.aload 4, 2) := by decide +kernel
theorem dL_find_2 : decode cL_find 2 = .ok (.aload_n 0, 1) := by decide +kernel
theorem dL_find_3 : decode cL_find 3 = .ok (.iload_n 1, 1) := by decide +kernel
theorem dL_find_4 : decode cL_find 4 = .ok (.iload_n 2, 1) := by decide +kernel
theorem dL_find_5 : decode cL_find 5 = .ok (.iload_n 3, 1) := by decide +kernel
theorem dL_find_6 : decode cL_find 6 = .ok (.invokevirtual 108, 3) := by decide +kernel
theorem dL_find_9 : decode cL_find 9 = .ok (.i2l, 1) := by decide +kernel
theorem dL_find_10 : decode cL_find 10 = .ok (.putfield 13, 3) := by decide +kernel
theorem dL_find_13 : decode cL_find 13 = .ok (.goto 7, 3) := by decide +kernel
theorem dL_find_16 : decode cL_find 16 = .ok (.astore 5, 2) := by decide +kernel
theorem dL_find_18 : decode cL_find 18 = .ok (.iconst 1, 1) := by decide +kernel
theorem dL_find_19 : decode cL_find 19 = .ok (.ireturn, 1) := by decide +kernel
theorem dL_find_20 : decode cL_find 20 = .ok (.iconst 0, 1) := by decide +kernel
theorem dL_find_21 : decode cL_find 21 = .ok (.ireturn, 1) := by decide +kernel
theorem dL_findLast_0 : decode cL_findLast 0 = .ok (.aload 4, 2) := by decide +kernel
theorem dL_findLast_2 : decode cL_findLast 2 = .ok (.aload_n 0, 1) := by decide +kernel
theorem dL_findLast_3 : decode cL_findLast 3 = .ok (.iload_n 1, 1) := by decide +kernel
theorem dL_findLast_4 : decode cL_findLast 4 = .ok (.iload_n 2, 1) := by decide +kernel
theorem dL_findLast_5 : decode cL_findLast 5 = .ok (.iload_n 3, 1) := by decide +kernel
theorem dL_findLast_6 : decode cL_findLast 6 = .ok (.invokevirtual 111, 3) := by decide +kernel
theorem dL_findLast_9 : decode cL_findLast 9 = .ok (.i2l, 1) := by decide +kernel
theorem dL_findLast_10 : decode cL_findLast 10 = .ok (.putfield 13, 3) := by decide +kernel
theorem dL_findLast_13 : decode cL_findLast 13 = .ok (.goto 7, 3) := by decide +kernel
theorem dL_findLast_16 : decode cL_findLast 16 = .ok (.astore 5, 2) := by decide +kernel
theorem dL_findLast_18 : decode cL_findLast 18 = .ok (.iconst 1, 1) := by decide +kernel
theorem dL_findLast_19 : decode cL_findLast 19 = .ok (.ireturn, 1) := by decide +kernel
theorem dL_findLast_20 : decode cL_findLast 20 = .ok (.iconst 0, 1) := by decide +kernel
theorem dL_findLast_21 : decode cL_findLast 21 = .ok (.ireturn, 1) := by decide +kernel
theorem dL_order_0 : decode cL_order 0 = .ok (.aload_n 3, 1) := by decide +kernel
theorem dL_order_1 : decode cL_order 1 = .ok (.aload_n 0, 1) := by decide +kernel
theorem dL_order_2 : decode cL_order 2 = .ok (.iload_n 1, 1) := by decide +kernel
theorem dL_order_3 : decode cL_order 3 = .ok (.iload_n 2, 1) := by decide +kernel
theorem dL_order_4 : decode cL_order 4 = .ok (.invokevirtual 114, 3) := by decide +kernel
theorem dL_order_7 : decode cL_order 7 = .ok (.i2l, 1) := by decide +kernel
theorem dL_order_8 : decode cL_order 8 = .ok (.putfield 13, 3) := by decide +kernel
theorem dL_order_11 : decode cL_order 11 = .ok (.goto 7, 3) := by decide +kernel
theorem dL_order_14 : decode cL_order 14 = .ok (.astore 4, 2) := by decide +kernel
theorem dL_order_16 : decode cL_order 16 = .ok (.iconst 1, 1) := by decide +kernel
theorem dL_order_17 : decode cL_order 17 = .ok (.ireturn, 1) := by decide +kernel
theorem dL_order_18 : decode cL_order 18 = .ok (.iconst 0, 1) := by decide +kernel
theorem dL_order_19 : decode cL_order 19 = .ok (.ireturn, 1) := by decide +kernel
theorem dL_isMirrored_0 : decode cL_isMirrored 0 = .ok (.aload_n 2, 1) := by decide +kernel
theorem dL_isMirrored_1 : decode cL_isMirrored 1 = .ok (.aload_n 0, 1) := by decide +kernel
theorem dL_isMirrored_2 : decode cL_isMirrored 2 = .ok (.iload_n 1, 1) := by decide +kernel
theorem dL_isMirrored_3 : decode cL_isMirrored 3 = .ok (.invokevirtual 117, 3) := by decide +kernel
theorem dL_isMirrored_6 : decode cL_isMirrored 6 = .ok (.ifCond .eq 7, 3) := by decide +kernel
theorem dL_isMirrored_9 : decode cL_isMirrored 9 = .ok (.lconst 1, 1) := by decide +kernel
theorem dL_isMirrored_10 : decode cL_isMirrored 10 = .ok (.goto 4, 3) := by decide +kernel
theorem dL_isMirrored_13 : decode cL_isMirrored 13 = .ok (.lconst 0, 1) := by decide +kernel
theorem dL_isMirrored_14 : decode cL_isMirrored 14 = .ok (.putfield 13, 3) := by decide +kernel
theorem dL_isMirrored_17 : decode cL_isMirrored 17 = .ok (.goto 6, 3) := by decide +kernel
theorem dL_isMirrored_20 : decode cL_isMirrored 20 = .ok (.astore_n 3, 1) := by decide +kernel
theorem dL_isMirrored_21 : decode cL_isMirrored 21 = .ok (.iconst 1, 1) := by decide +kernel
theorem dL_isMirrored_22 : decode cL_isMirrored 22 = .ok (.ireturn, 1) := by decide +kernel
theorem dL_isMirrored_23 : decode cL_isMirrored 23 = .ok (.iconst 0, 1) := by decide +kernel
theorem dL_isMirrored_24 : decode cL_isMirrored 24 = .ok (.ireturn, 1) := by decide +kernel
theorem dL_spread_0 : decode cL_spread 0 = .ok (.aload 4, 2) := by decide +kernel
theorem dL_spread_2 : decode cL_spread 2 = .ok (.aload_n 0, 1) := by decide +kernel
theorem dL_spread_3 : decode cL_spread 3 = .ok (.iload_n 1, 1) := by decide +kernel
theorem dL_spread_4 : decode cL_spread 4 = .ok (.iload_n 2, 1) := by decide +kernel
theorem dL_spread_5 : decode cL_spread 5 = .ok (.iload_n 3, 1) := by decide +kernel
theorem dL_spread_6 : decode cL_spread 6 = .ok (.invokevirtual 121, 3) := by decide +kernel
theorem dL_spread_9 : decode cL_spread 9 = .ok (.i2l, 1) := by decide +kernel
theorem dL_spread_10 : decode cL_spread 10 = .ok (.putfield 13, 3) := by decide +kernel
theorem dL_spread_13 : decode cL_spread 13 = .ok (.goto 11, 3) := by decide +kernel
theorem dL_spread_16 : decode cL_spread 16 = .ok (.astore 5, 2) := by decide +kernel
theorem dL_spread_18 : decode cL_spread 18 = .ok (.iconst 1, 1) := by decide +kernel
theorem dL_spread_19 : decode cL_spread 19 = .ok (.ireturn, 1) := by decide +kernel
theorem dL_spread_20 : decode cL_spread 20 = .ok (.astore 5, 2) := by decide +kernel
theorem dL_spread_22 : decode cL_spread 22 = .ok (.iconst 2, 1) := by decide +kernel
theorem dL_spread_23 : decode cL_spread 23 = .ok (.ireturn, 1) := by decide +kernel
theorem dL_spread_24 : decode cL_spread 24 = .ok (.iconst 0, 1) := by decide +kernel
theorem dL_spread_25 : decode cL_spread 25 = .ok (.ireturn, 1) := by decide +kernel
theorem dL_kinds_0 : decode cL_kinds 0 = .ok (.aload 4, 2) := by decide +kernel
theorem dL_kinds_2 : decode cL_kinds 2 = .ok (.aload_n 0, 1) := by decide +kernel
theorem dL_kinds_3 : decode cL_kinds 3 = .ok (.iload_n 1, 1) := by decide +kernel
theorem dL_kinds_4 : decode cL_kinds 4 = .ok (.iload_n 2, 1) := by decide +kernel
theorem dL_kinds_5 : decode cL_kinds 5 = .ok (.iload_n 3, 1) := by decide +kernel
theorem dL_kinds_6 : decode cL_kinds 6 = .ok (.invokevirtual 124, 3) := by decide +kernel
theorem dL_kinds_9 : decode cL_kinds 9 = .ok (.i2l, 1) := by decide +kernel
theorem dL_kinds_10 : decode cL_kinds 10 = .ok (.putfield 13, 3) := by decide +kernel
theorem dL_kinds_13 : decode cL_kinds 13 = .ok (.goto 11, 3) := by decide +kernel
theorem dL_kinds_16 : decode cL_kinds 16 = .ok (.astore 5, 2) := by decide +kernel
theorem dL_kinds_18 : decode cL_kinds 18 = .ok (.iconst 1, 1) := by decide +kernel
theorem dL_kinds_19 : decode cL_kinds 19 = .ok (.ireturn, 1) := by decide +kernel
theorem dL_kinds_20 : decode cL_kinds 20 = .ok (.astore 5, 2) := by decide +kernel
theorem dL_kinds_22 : decode cL_kinds 22 = .ok (.iconst 2, 1) := by decide +kernel
theorem dL_kinds_23 : decode cL_kinds 23 = .ok (.ireturn, 1) := by decide +kernel
theorem dL_kinds_24 : decode cL_kinds 24 = .ok (.iconst 0, 1) := by decide +kernel
theorem dL_kinds_25 : decode cL_kinds 25 = .ok (.ireturn, 1) := by decide +kernel
theorem dL_times_0 : decode cL_times 0 = .ok (.aload_n 2, 1) := by decide +kernel
theorem dL_times_1 : decode cL_times 1 = .ok (.aload_n 0, 1) := by decide +kernel
theorem dL_times_2 : decode cL_times 2 = .ok (.iload_n 1, 1) := by decide +kernel
theorem dL_times_3 : decode cL_times 3 = .ok (.invokevirtual 127, 3) := by decide +kernel
theorem dL_times_6 : decode cL_times 6 = .ok (.i2l, 1) := by decide +kernel
theorem dL_times_7 : decode cL_times 7 = .ok (.putfield 13, 3) := by decide +kernel
theorem dL_times_10 : decode cL_times 10 = .ok (.goto 6, 3) := by decide +kernel
theorem dL_times_13 : decode cL_times 13 = .ok (.astore_n 3, 1) := by decide +kernel
theorem dL_times_14 : decode cL_times 14 = .ok (.iconst 1, 1) := by decide +kernel
theorem dL_times_15 : decode cL_times 15 = .ok (.ireturn, 1) := by decide +kernel
theorem dL_times_16 : decode cL_times 16 = .ok (.iconst 0, 1) := by decide +kernel
theorem dL_times_17 : decode cL_times 17 = .ok (.ireturn, 1) := by decide +kernel
theorem dL_overlaps_0 : decode cL_overlaps 0 = .ok (.aload_n 2, 1) := by decide +kernel
theorem dL_overlaps_1 : decode cL_overlaps 1 = .ok (.aload_n 0, 1) := by decide +kernel
theorem dL_overlaps_2 : decode cL_overlaps 2 = .ok (.iload_n 1, 1) := by decide +kernel
theorem dL_overlaps_3 : decode cL_overlaps 3 = .ok (.invokevirtual 130, 3) := by decide +kernel
theorem dL_overlaps_6 : decode cL_overlaps 6 = .ok (.i2l, 1) := by decide +kernel
theorem dL_overlaps_7 : decode cL_overlaps 7 = .ok (.putfield 13, 3) := by decide +kernel
theorem dL_overlaps_10 : decode cL_overlaps 10 = .ok (.goto 6, 3) := by decide +kernel
theorem dL_overlaps_13 : decode cL_overlaps 13 = .ok (.astore_n 3, 1) := by decide +kernel
theorem dL_overlaps_14 : decode cL_overlaps 14 = .ok (.iconst 1, 1) := by decide +kernel
theorem dL_overlaps_15 : decode cL_overlaps 15 = .ok (.ireturn, 1) := by decide +kernel
theorem dL_overlaps_16 : decode cL_overlaps 16 = .ok (.iconst 0, 1) := by decide +kernel
theorem dL_overlaps_17 : decode cL_overlaps 17 = .ok (.ireturn, 1) := by decide +kernel
theorem dL_mirrors_0 : decode cL_mirrors 0 = .ok (.aload_n 2, 1) := by decide +kernel
theorem dL_mirrors_1 : decode cL_mirrors 1 = .ok (.aload_n 0, 1) := by decide +kernel
theorem dL_mirrors_2 : decode cL_mirrors 2 = .ok (.iload_n 1, 1) := by decide +kernel
theorem dL_mirrors_3 : decode cL_mirrors 3 = .ok (.invokevirtual 133, 3) := by decide +kernel
theorem dL_mirrors_6 : decode cL_mirrors 6 = .ok (.i2l, 1) := by decide +kernel
theorem dL_mirrors_7 : decode cL_mirrors 7 = .ok (.putfield 13, 3) := by decide +kernel
theorem dL_mirrors_10 : decode cL_mirrors 10 = .ok (.goto 6, 3) := by decide +kernel
theorem dL_mirrors_13 : decode cL_mirrors 13 = .ok (.astore_n 3, 1) := by decide +kernel
theorem dL_mirrors_14 : decode cL_mirrors 14 = .ok (.iconst 1, 1) := by decide +kernel
theorem dL_mirrors_15 : decode cL_mirrors 15 = .ok (.ireturn, 1) := by decide +kernel
theorem dL_mirrors_16 : decode cL_mirrors 16 = .ok (.iconst 0, 1) := by decide +kernel
theorem dL_mirrors_17 : decode cL_mirrors 17 = .ok (.ireturn, 1) := by decide +kernel
theorem dL_folds_0 : decode cL_folds 0 = .ok (.aload_n 2, 1) := by decide +kernel
theorem dL_folds_1 : decode cL_folds 1 = .ok (.aload_n 0, 1) := by decide +kernel
theorem dL_folds_2 : decode cL_folds 2 = .ok (.iload_n 1, 1) := by decide +kernel
theorem dL_folds_3 : decode cL_folds 3 = .ok (.invokevirtual 136, 3) := by decide +kernel
theorem dL_folds_6 : decode cL_folds 6 = .ok (.i2l, 1) := by decide +kernel
theorem dL_folds_7 : decode cL_folds 7 = .ok (.putfield 13, 3) := by decide +kernel
theorem dL_folds_10 : decode cL_folds 10 = .ok (.goto 6, 3) := by decide +kernel
theorem dL_folds_13 : decode cL_folds 13 = .ok (.astore_n 3, 1) := by decide +kernel
theorem dL_folds_14 : decode cL_folds 14 = .ok (.iconst 1, 1) := by decide +kernel
theorem dL_folds_15 : decode cL_folds 15 = .ok (.ireturn, 1) := by decide +kernel
theorem dL_folds_16 : decode cL_folds 16 = .ok (.iconst 0, 1) := by decide +kernel
theorem dL_folds_17 : decode cL_folds 17 = .ok (.ireturn, 1) := by decide +kernel
theorem dL_least_0 : decode cL_least 0 = .ok (.aload_n 2, 1) := by decide +kernel
theorem dL_least_1 : decode cL_least 1 = .ok (.aload_n 0, 1) := by decide +kernel
theorem dL_least_2 : decode cL_least 2 = .ok (.iload_n 1, 1) := by decide +kernel
theorem dL_least_3 : decode cL_least 3 = .ok (.invokevirtual 139, 3) := by decide +kernel
theorem dL_least_6 : decode cL_least 6 = .ok (.i2l, 1) := by decide +kernel
theorem dL_least_7 : decode cL_least 7 = .ok (.putfield 13, 3) := by decide +kernel
theorem dL_least_10 : decode cL_least 10 = .ok (.goto 6, 3) := by decide +kernel
theorem dL_least_13 : decode cL_least 13 = .ok (.astore_n 3, 1) := by decide +kernel
theorem dL_least_14 : decode cL_least 14 = .ok (.iconst 1, 1) := by decide +kernel
theorem dL_least_15 : decode cL_least 15 = .ok (.ireturn, 1) := by decide +kernel
theorem dL_least_16 : decode cL_least 16 = .ok (.iconst 0, 1) := by decide +kernel
theorem dL_least_17 : decode cL_least 17 = .ok (.ireturn, 1) := by decide +kernel
theorem dL_isApart_0 : decode cL_isApart 0 = .ok (.aload_n 3, 1) := by decide +kernel
theorem dL_isApart_1 : decode cL_isApart 1 = .ok (.aload_n 0, 1) := by decide +kernel
theorem dL_isApart_2 : decode cL_isApart 2 = .ok (.iload_n 1, 1) := by decide +kernel
theorem dL_isApart_3 : decode cL_isApart 3 = .ok (.iload_n 2, 1) := by decide +kernel
theorem dL_isApart_4 : decode cL_isApart 4 = .ok (.invokevirtual 142, 3) := by decide +kernel
theorem dL_isApart_7 : decode cL_isApart 7 = .ok (.ifCond .eq 7, 3) := by decide +kernel
theorem dL_isApart_10 : decode cL_isApart 10 = .ok (.lconst 1, 1) := by decide +kernel
theorem dL_isApart_11 : decode cL_isApart 11 = .ok (.goto 4, 3) := by decide +kernel
theorem dL_isApart_14 : decode cL_isApart 14 = .ok (.lconst 0, 1) := by decide +kernel
theorem dL_isApart_15 : decode cL_isApart 15 = .ok (.putfield 13, 3) := by decide +kernel
theorem dL_isApart_18 : decode cL_isApart 18 = .ok (.goto 7, 3) := by decide +kernel
theorem dL_isApart_21 : decode cL_isApart 21 = .ok (.astore 4, 2) := by decide +kernel
theorem dL_isApart_23 : decode cL_isApart 23 = .ok (.iconst 1, 1) := by decide +kernel
theorem dL_isApart_24 : decode cL_isApart 24 = .ok (.ireturn, 1) := by decide +kernel
theorem dL_isApart_25 : decode cL_isApart 25 = .ok (.iconst 0, 1) := by decide +kernel
theorem dL_isApart_26 : decode cL_isApart 26 = .ok (.ireturn, 1) := by decide +kernel
theorem dL_turns_0 : decode cL_turns 0 = .ok (.aload_n 2, 1) := by decide +kernel
theorem dL_turns_1 : decode cL_turns 1 = .ok (.aload_n 0, 1) := by decide +kernel
theorem dL_turns_2 : decode cL_turns 2 = .ok (.iload_n 1, 1) := by decide +kernel
theorem dL_turns_3 : decode cL_turns 3 = .ok (.invokevirtual 145, 3) := by decide +kernel
theorem dL_turns_6 : decode cL_turns 6 = .ok (.putfield 100, 3) := by decide +kernel
theorem dL_turns_9 : decode cL_turns 9 = .ok (.goto 6, 3) := by decide +kernel
theorem dL_turns_12 : decode cL_turns 12 = .ok (.astore_n 3, 1) := by decide +kernel
theorem dL_turns_13 : decode cL_turns 13 = .ok (.iconst 1, 1) := by decide +kernel
theorem dL_turns_14 : decode cL_turns 14 = .ok (.ireturn, 1) := by decide +kernel
theorem dL_turns_15 : decode cL_turns 15 = .ok (.iconst 0, 1) := by decide +kernel
theorem dL_turns_16 : decode cL_turns 16 = .ok (.ireturn, 1) := by decide +kernel
theorem dL_grown_0 : decode cL_grown 0 = .ok (.aload_n 3, 1) := by decide +kernel
theorem dL_grown_1 : decode cL_grown 1 = .ok (.aload_n 0, 1) := by decide +kernel
theorem dL_grown_2 : decode cL_grown 2 = .ok (.iload_n 1, 1) := by decide +kernel
theorem dL_grown_3 : decode cL_grown 3 = .ok (.iload_n 2, 1) := by decide +kernel
theorem dL_grown_4 : decode cL_grown 4 = .ok (.invokevirtual 148, 3) := by decide +kernel
theorem dL_grown_7 : decode cL_grown 7 = .ok (.putfield 100, 3) := by decide +kernel
theorem dL_grown_10 : decode cL_grown 10 = .ok (.goto 7, 3) := by decide +kernel
theorem dL_grown_13 : decode cL_grown 13 = .ok (.astore 4, 2) := by decide +kernel
theorem dL_grown_15 : decode cL_grown 15 = .ok (.iconst 1, 1) := by decide +kernel
theorem dL_grown_16 : decode cL_grown 16 = .ok (.ireturn, 1) := by decide +kernel
theorem dL_grown_17 : decode cL_grown 17 = .ok (.iconst 0, 1) := by decide +kernel
theorem dL_grown_18 : decode cL_grown 18 = .ok (.ireturn, 1) := by decide +kernel
theorem dL_size_0 : decode cL_size 0 = .ok (.aload_n 3, 1) := by decide +kernel
theorem dL_size_1 : decode cL_size 1 = .ok (.aload_n 0, 1) := by decide +kernel
theorem dL_size_2 : decode cL_size 2 = .ok (.iload_n 1, 1) := by decide +kernel
theorem dL_size_3 : decode cL_size 3 = .ok (.iload_n 2, 1) := by decide +kernel
theorem dL_size_4 : decode cL_size 4 = .ok (.invokevirtual 152, 3) := by decide +kernel
theorem dL_size_7 : decode cL_size 7 = .ok (.i2l, 1) := by decide +kernel
theorem dL_size_8 : decode cL_size 8 = .ok (.putfield 13, 3) := by decide +kernel
theorem dL_size_11 : decode cL_size 11 = .ok (.goto 7, 3) := by decide +kernel
theorem dL_size_14 : decode cL_size 14 = .ok (.astore 4, 2) := by decide +kernel
theorem dL_size_16 : decode cL_size 16 = .ok (.iconst 1, 1) := by decide +kernel
theorem dL_size_17 : decode cL_size 17 = .ok (.ireturn, 1) := by decide +kernel
theorem dL_size_18 : decode cL_size 18 = .ok (.iconst 0, 1) := by decide +kernel
theorem dL_size_19 : decode cL_size 19 = .ok (.ireturn, 1) := by decide +kernel
theorem dL_ups_0 : decode cL_ups 0 = .ok (.aload_n 3, 1) := by decide +kernel
theorem dL_ups_1 : decode cL_ups 1 = .ok (.aload_n 0, 1) := by decide +kernel
theorem dL_ups_2 : decode cL_ups 2 = .ok (.iload_n 1, 1) := by decide +kernel
theorem dL_ups_3 : decode cL_ups 3 = .ok (.iload_n 2, 1) := by decide +kernel
theorem dL_ups_4 : decode cL_ups 4 = .ok (.invokevirtual 155, 3) := by decide +kernel
theorem dL_ups_7 : decode cL_ups 7 = .ok (.i2l, 1) := by decide +kernel
theorem dL_ups_8 : decode cL_ups 8 = .ok (.putfield 13, 3) := by decide +kernel
theorem dL_ups_11 : decode cL_ups 11 = .ok (.goto 7, 3) := by decide +kernel
theorem dL_ups_14 : decode cL_ups 14 = .ok (.astore 4, 2) := by decide +kernel
theorem dL_ups_16 : decode cL_ups 16 = .ok (.iconst 1, 1) := by decide +kernel
theorem dL_ups_17 : decode cL_ups 17 = .ok (.ireturn, 1) := by decide +kernel
theorem dL_ups_18 : decode cL_ups 18 = .ok (.iconst 0, 1) := by decide +kernel
theorem dL_ups_19 : decode cL_ups 19 = .ok (.ireturn, 1) := by decide +kernel
theorem dL_cross_0 : decode cL_cross 0 = .ok (.aload_n 2, 1) := by decide +kernel
theorem dL_cross_1 : decode cL_cross 1 = .ok (.aload_n 0, 1) := by decide +kernel
theorem dL_cross_2 : decode cL_cross 2 = .ok (.iload_n 1, 1) := by decide +kernel
theorem dL_cross_3 : decode cL_cross 3 = .ok (.invokevirtual 158, 3) := by decide +kernel
theorem dL_cross_6 : decode cL_cross 6 = .ok (.i2l, 1) := by decide +kernel
theorem dL_cross_7 : decode cL_cross 7 = .ok (.putfield 13, 3) := by decide +kernel
theorem dL_cross_10 : decode cL_cross 10 = .ok (.goto 6, 3) := by decide +kernel
theorem dL_cross_13 : decode cL_cross 13 = .ok (.astore_n 3, 1) := by decide +kernel
theorem dL_cross_14 : decode cL_cross 14 = .ok (.iconst 1, 1) := by decide +kernel
theorem dL_cross_15 : decode cL_cross 15 = .ok (.ireturn, 1) := by decide +kernel
theorem dL_cross_16 : decode cL_cross 16 = .ok (.iconst 0, 1) := by decide +kernel
theorem dL_cross_17 : decode cL_cross 17 = .ok (.ireturn, 1) := by decide +kernel
theorem dL_alike_0 : decode cL_alike 0 = .ok (.aload_n 2, 1) := by decide +kernel
theorem dL_alike_1 : decode cL_alike 1 = .ok (.aload_n 0, 1) := by decide +kernel
theorem dL_alike_2 : decode cL_alike 2 = .ok (.iload_n 1, 1) := by decide +kernel
theorem dL_alike_3 : decode cL_alike 3 = .ok (.invokevirtual 161, 3) := by decide +kernel
theorem dL_alike_6 : decode cL_alike 6 = .ok (.i2l, 1) := by decide +kernel
theorem dL_alike_7 : decode cL_alike 7 = .ok (.putfield 13, 3) := by decide +kernel
theorem dL_alike_10 : decode cL_alike 10 = .ok (.goto 6, 3) := by decide +kernel
theorem dL_alike_13 : decode cL_alike 13 = .ok (.astore_n 3, 1) := by decide +kernel
theorem dL_alike_14 : decode cL_alike 14 = .ok (.iconst 1, 1) := by decide +kernel
theorem dL_alike_15 : decode cL_alike 15 = .ok (.ireturn, 1) := by decide +kernel
theorem dL_alike_16 : decode cL_alike 16 = .ok (.iconst 0, 1) := by decide +kernel
theorem dL_alike_17 : decode cL_alike 17 = .ok (.ireturn, 1) := by decide +kernel
theorem dL_house_0 : decode cL_house 0 = .ok (.aload_n 2, 1) := by decide +kernel
theorem dL_house_1 : decode cL_house 1 = .ok (.aload_n 0, 1) := by decide +kernel
theorem dL_house_2 : decode cL_house 2 = .ok (.iload_n 1, 1) := by decide +kernel
theorem dL_house_3 : decode cL_house 3 = .ok (.invokevirtual 164, 3) := by decide +kernel
theorem dL_house_6 : decode cL_house 6 = .ok (.i2l, 1) := by decide +kernel
theorem dL_house_7 : decode cL_house 7 = .ok (.putfield 13, 3) := by decide +kernel
theorem dL_house_10 : decode cL_house 10 = .ok (.goto 6, 3) := by decide +kernel
theorem dL_house_13 : decode cL_house 13 = .ok (.astore_n 3, 1) := by decide +kernel
theorem dL_house_14 : decode cL_house 14 = .ok (.iconst 1, 1) := by decide +kernel
theorem dL_house_15 : decode cL_house 15 = .ok (.ireturn, 1) := by decide +kernel
theorem dL_house_16 : decode cL_house 16 = .ok (.iconst 0, 1) := by decide +kernel
theorem dL_house_17 : decode cL_house 17 = .ok (.ireturn, 1) := by decide +kernel
theorem dL_law_0 : decode cL_law 0 = .ok (.new 8, 3) := by decide +kernel
theorem dL_law_3 : decode cL_law 3 = .ok (.dup, 1) := by decide +kernel
theorem dL_law_4 : decode cL_law 4 = .ok (.invokespecial 167, 3) := by decide +kernel
theorem dL_law_7 : decode cL_law 7 = .ok (.astore_n 1, 1) := by decide +kernel
theorem dL_law_8 : decode cL_law 8 = .ok (.new 168, 3) := by decide +kernel
theorem dL_law_11 : decode cL_law 11 = .ok (.dup, 1) := by decide +kernel
theorem dL_law_12 : decode cL_law 12 = .ok (.invokespecial 170, 3) := by decide +kernel
theorem dL_law_15 : decode cL_law 15 = .ok (.astore_n 2, 1) := by decide +kernel
theorem dL_law_16 : decode cL_law 16 = .ok (.new 14, 3) := by decide +kernel
theorem dL_law_19 : decode cL_law 19 = .ok (.dup, 1) := by decide +kernel
theorem dL_law_20 : decode cL_law 20 = .ok (.invokespecial 171, 3) := by decide +kernel
theorem dL_law_23 : decode cL_law 23 = .ok (.astore_n 3, 1) := by decide +kernel
theorem dL_law_24 : decode cL_law 24 = .ok (.iconst 0, 1) := by decide +kernel
theorem dL_law_25 : decode cL_law 25 = .ok (.istore 4, 2) := by decide +kernel
theorem dL_law_27 : decode cL_law 27 = .ok (.iload 4, 2) := by decide +kernel
theorem dL_law_29 : decode cL_law 29 = .ok (.aload_n 0, 1) := by decide +kernel
theorem dL_law_30 : decode cL_law 30 = .ok (.arraylength, 1) := by decide +kernel
theorem dL_law_31 : decode cL_law 31 = .ok (.iconst 5, 1) := by decide +kernel
theorem dL_law_32 : decode cL_law 32 = .ok (.isub, 1) := by decide +kernel
theorem dL_law_33 : decode cL_law 33 = .ok (.if_icmp .gt 2144, 3) := by decide +kernel
theorem dL_law_36 : decode cL_law 36 = .ok (.aload_n 0, 1) := by decide +kernel
theorem dL_law_37 : decode cL_law 37 = .ok (.iload 4, 2) := by decide +kernel
theorem dL_law_39 : decode cL_law 39 = .ok (.iaload, 1) := by decide +kernel
theorem dL_law_40 : decode cL_law 40 = .ok (.bipush 63, 2) := by decide +kernel
theorem dL_law_42 : decode cL_law 42 = .ok (.iand, 1) := by decide +kernel
theorem dL_law_43 : decode cL_law 43 = .ok (.tableswitch 2128 0 46 #[201, 241, 281, 349, 401, 469, 509, 561, 625, 665, 693, 721, 761, 801, 853, 905, 957, 1009, 1073, 1113, 1141, 1169, 1197, 1237, 1265, 1321, 1373, 1425, 1465, 1493, 1561, 1629, 1657, 1685, 1713, 1741, 1769, 1809, 1837, 1893, 1949, 2005, 2033, 2061, 2089, 2102, 2115], 201) := by decide +kernel
theorem dL_law_244 : decode cL_law 244 = .ok (.aload_n 1, 1) := by decide +kernel
theorem dL_law_245 : decode cL_law 245 = .ok (.aload_n 0, 1) := by decide +kernel
theorem dL_law_246 : decode cL_law 246 = .ok (.iload 4, 2) := by decide +kernel
theorem dL_law_248 : decode cL_law 248 = .ok (.iconst 1, 1) := by decide +kernel
theorem dL_law_249 : decode cL_law 249 = .ok (.iadd, 1) := by decide +kernel
theorem dL_law_250 : decode cL_law 250 = .ok (.iaload, 1) := by decide +kernel
theorem dL_law_251 : decode cL_law 251 = .ok (.aload_n 0, 1) := by decide +kernel
theorem dL_law_252 : decode cL_law 252 = .ok (.iload 4, 2) := by decide +kernel
theorem dL_law_254 : decode cL_law 254 = .ok (.iconst 2, 1) := by decide +kernel
theorem dL_law_255 : decode cL_law 255 = .ok (.iadd, 1) := by decide +kernel
theorem dL_law_256 : decode cL_law 256 = .ok (.iaload, 1) := by decide +kernel
theorem dL_law_257 : decode cL_law 257 = .ok (.aload_n 3, 1) := by decide +kernel
theorem dL_law_258 : decode cL_law 258 = .ok (.invokestatic 172, 3) := by decide +kernel
theorem dL_law_261 : decode cL_law 261 = .ok (.istore 5, 2) := by decide +kernel
theorem dL_law_263 : decode cL_law 263 = .ok (.aload_n 2, 1) := by decide +kernel
theorem dL_law_264 : decode cL_law 264 = .ok (.aload_n 0, 1) := by decide +kernel
theorem dL_law_265 : decode cL_law 265 = .ok (.iload 4, 2) := by decide +kernel
theorem dL_law_267 : decode cL_law 267 = .ok (.iconst 1, 1) := by decide +kernel
theorem dL_law_268 : decode cL_law 268 = .ok (.iadd, 1) := by decide +kernel
theorem dL_law_269 : decode cL_law 269 = .ok (.iaload, 1) := by decide +kernel
theorem dL_law_270 : decode cL_law 270 = .ok (.aload_n 0, 1) := by decide +kernel
theorem dL_law_271 : decode cL_law 271 = .ok (.iload 4, 2) := by decide +kernel
theorem dL_law_273 : decode cL_law 273 = .ok (.iconst 2, 1) := by decide +kernel
theorem dL_law_274 : decode cL_law 274 = .ok (.iadd, 1) := by decide +kernel
theorem dL_law_275 : decode cL_law 275 = .ok (.iaload, 1) := by decide +kernel
theorem dL_law_276 : decode cL_law 276 = .ok (.invokevirtual 177, 3) := by decide +kernel
theorem dL_law_279 : decode cL_law 279 = .ok (.istore 6, 2) := by decide +kernel
theorem dL_law_281 : decode cL_law 281 = .ok (.goto 1890, 3) := by decide +kernel
theorem dL_law_284 : decode cL_law 284 = .ok (.aload_n 1, 1) := by decide +kernel
theorem dL_law_285 : decode cL_law 285 = .ok (.aload_n 0, 1) := by decide +kernel
theorem dL_law_286 : decode cL_law 286 = .ok (.iload 4, 2) := by decide +kernel
theorem dL_law_288 : decode cL_law 288 = .ok (.iconst 1, 1) := by decide +kernel
theorem dL_law_289 : decode cL_law 289 = .ok (.iadd, 1) := by decide +kernel
theorem dL_law_290 : decode cL_law 290 = .ok (.iaload, 1) := by decide +kernel
theorem dL_law_291 : decode cL_law 291 = .ok (.aload_n 0, 1) := by decide +kernel
theorem dL_law_292 : decode cL_law 292 = .ok (.iload 4, 2) := by decide +kernel
theorem dL_law_294 : decode cL_law 294 = .ok (.iconst 2, 1) := by decide +kernel
theorem dL_law_295 : decode cL_law 295 = .ok (.iadd, 1) := by decide +kernel
theorem dL_law_296 : decode cL_law 296 = .ok (.iaload, 1) := by decide +kernel
theorem dL_law_297 : decode cL_law 297 = .ok (.aload_n 3, 1) := by decide +kernel
theorem dL_law_298 : decode cL_law 298 = .ok (.invokestatic 178, 3) := by decide +kernel
theorem dL_law_301 : decode cL_law 301 = .ok (.istore 5, 2) := by decide +kernel
theorem dL_law_303 : decode cL_law 303 = .ok (.aload_n 2, 1) := by decide +kernel
theorem dL_law_304 : decode cL_law 304 = .ok (.aload_n 0, 1) := by decide +kernel
theorem dL_law_305 : decode cL_law 305 = .ok (.iload 4, 2) := by decide +kernel
theorem dL_law_307 : decode cL_law 307 = .ok (.iconst 1, 1) := by decide +kernel
theorem dL_law_308 : decode cL_law 308 = .ok (.iadd, 1) := by decide +kernel
theorem dL_law_309 : decode cL_law 309 = .ok (.iaload, 1) := by decide +kernel
theorem dL_law_310 : decode cL_law 310 = .ok (.aload_n 0, 1) := by decide +kernel
theorem dL_law_311 : decode cL_law 311 = .ok (.iload 4, 2) := by decide +kernel
theorem dL_law_313 : decode cL_law 313 = .ok (.iconst 2, 1) := by decide +kernel
theorem dL_law_314 : decode cL_law 314 = .ok (.iadd, 1) := by decide +kernel
theorem dL_law_315 : decode cL_law 315 = .ok (.iaload, 1) := by decide +kernel
theorem dL_law_316 : decode cL_law 316 = .ok (.invokevirtual 180, 3) := by decide +kernel
theorem dL_law_319 : decode cL_law 319 = .ok (.istore 6, 2) := by decide +kernel
theorem dL_law_321 : decode cL_law 321 = .ok (.goto 1850, 3) := by decide +kernel
theorem dL_law_324 : decode cL_law 324 = .ok (.aload_n 1, 1) := by decide +kernel
theorem dL_law_325 : decode cL_law 325 = .ok (.aload_n 0, 1) := by decide +kernel
theorem dL_law_326 : decode cL_law 326 = .ok (.iload 4, 2) := by decide +kernel
theorem dL_law_328 : decode cL_law 328 = .ok (.iconst 1, 1) := by decide +kernel
theorem dL_law_329 : decode cL_law 329 = .ok (.iadd, 1) := by decide +kernel
theorem dL_law_330 : decode cL_law 330 = .ok (.iaload, 1) := by decide +kernel
theorem dL_law_331 : decode cL_law 331 = .ok (.aload_n 0, 1) := by decide +kernel
theorem dL_law_332 : decode cL_law 332 = .ok (.iload 4, 2) := by decide +kernel
theorem dL_law_334 : decode cL_law 334 = .ok (.iconst 2, 1) := by decide +kernel
theorem dL_law_335 : decode cL_law 335 = .ok (.iadd, 1) := by decide +kernel
theorem dL_law_336 : decode cL_law 336 = .ok (.iaload, 1) := by decide +kernel
theorem dL_law_337 : decode cL_law 337 = .ok (.aload_n 0, 1) := by decide +kernel
theorem dL_law_338 : decode cL_law 338 = .ok (.iload 4, 2) := by decide +kernel
theorem dL_law_340 : decode cL_law 340 = .ok (.iconst 3, 1) := by decide +kernel
theorem dL_law_341 : decode cL_law 341 = .ok (.iadd, 1) := by decide +kernel
theorem dL_law_342 : decode cL_law 342 = .ok (.iaload, 1) := by decide +kernel
theorem dL_law_343 : decode cL_law 343 = .ok (.ifCond .eq 7, 3) := by decide +kernel
theorem dL_law_346 : decode cL_law 346 = .ok (.iconst 1, 1) := by decide +kernel
theorem dL_law_347 : decode cL_law 347 = .ok (.goto 4, 3) := by decide +kernel
theorem dL_law_350 : decode cL_law 350 = .ok (.iconst 0, 1) := by decide +kernel
theorem dL_law_351 : decode cL_law 351 = .ok (.aload_n 3, 1) := by decide +kernel
theorem dL_law_352 : decode cL_law 352 = .ok (.invokestatic 181, 3) := by decide +kernel
theorem dL_law_355 : decode cL_law 355 = .ok (.istore 5, 2) := by decide +kernel
theorem dL_law_357 : decode cL_law 357 = .ok (.aload_n 2, 1) := by decide +kernel
theorem dL_law_358 : decode cL_law 358 = .ok (.aload_n 0, 1) := by decide +kernel
theorem dL_law_359 : decode cL_law 359 = .ok (.iload 4, 2) := by decide +kernel
theorem dL_law_361 : decode cL_law 361 = .ok (.iconst 1, 1) := by decide +kernel
theorem dL_law_362 : decode cL_law 362 = .ok (.iadd, 1) := by decide +kernel
theorem dL_law_363 : decode cL_law 363 = .ok (.iaload, 1) := by decide +kernel
theorem dL_law_364 : decode cL_law 364 = .ok (.aload_n 0, 1) := by decide +kernel
theorem dL_law_365 : decode cL_law 365 = .ok (.iload 4, 2) := by decide +kernel
theorem dL_law_367 : decode cL_law 367 = .ok (.iconst 2, 1) := by decide +kernel
theorem dL_law_368 : decode cL_law 368 = .ok (.iadd, 1) := by decide +kernel
theorem dL_law_369 : decode cL_law 369 = .ok (.iaload, 1) := by decide +kernel
theorem dL_law_370 : decode cL_law 370 = .ok (.aload_n 0, 1) := by decide +kernel
theorem dL_law_371 : decode cL_law 371 = .ok (.iload 4, 2) := by decide +kernel
theorem dL_law_373 : decode cL_law 373 = .ok (.iconst 3, 1) := by decide +kernel
theorem dL_law_374 : decode cL_law 374 = .ok (.iadd, 1) := by decide +kernel
theorem dL_law_375 : decode cL_law 375 = .ok (.iaload, 1) := by decide +kernel
theorem dL_law_376 : decode cL_law 376 = .ok (.ifCond .eq 7, 3) := by decide +kernel
theorem dL_law_379 : decode cL_law 379 = .ok (.iconst 1, 1) := by decide +kernel
theorem dL_law_380 : decode cL_law 380 = .ok (.goto 4, 3) := by decide +kernel
theorem dL_law_383 : decode cL_law 383 = .ok (.iconst 0, 1) := by decide +kernel
theorem dL_law_384 : decode cL_law 384 = .ok (.invokevirtual 184, 3) := by decide +kernel
theorem dL_law_387 : decode cL_law 387 = .ok (.istore 6, 2) := by decide +kernel
theorem dL_law_389 : decode cL_law 389 = .ok (.goto 1782, 3) := by decide +kernel
theorem dL_law_392 : decode cL_law 392 = .ok (.aload_n 1, 1) := by decide +kernel
theorem dL_law_393 : decode cL_law 393 = .ok (.aload_n 0, 1) := by decide +kernel
theorem dL_law_394 : decode cL_law 394 = .ok (.iload 4, 2) := by decide +kernel
theorem dL_law_396 : decode cL_law 396 = .ok (.iconst 1, 1) := by decide +kernel
theorem dL_law_397 : decode cL_law 397 = .ok (.iadd, 1) := by decide +kernel
theorem dL_law_398 : decode cL_law 398 = .ok (.iaload, 1) := by decide +kernel
theorem dL_law_399 : decode cL_law 399 = .ok (.aload_n 0, 1) := by decide +kernel
theorem dL_law_400 : decode cL_law 400 = .ok (.iload 4, 2) := by decide +kernel
theorem dL_law_402 : decode cL_law 402 = .ok (.iconst 2, 1) := by decide +kernel
theorem dL_law_403 : decode cL_law 403 = .ok (.iadd, 1) := by decide +kernel
theorem dL_law_404 : decode cL_law 404 = .ok (.iaload, 1) := by decide +kernel
theorem dL_law_405 : decode cL_law 405 = .ok (.aload_n 0, 1) := by decide +kernel
theorem dL_law_406 : decode cL_law 406 = .ok (.iload 4, 2) := by decide +kernel
theorem dL_law_408 : decode cL_law 408 = .ok (.iconst 3, 1) := by decide +kernel
theorem dL_law_409 : decode cL_law 409 = .ok (.iadd, 1) := by decide +kernel
theorem dL_law_410 : decode cL_law 410 = .ok (.iaload, 1) := by decide +kernel
theorem dL_law_411 : decode cL_law 411 = .ok (.aload_n 3, 1) := by decide +kernel
theorem dL_law_412 : decode cL_law 412 = .ok (.invokestatic 185, 3) := by decide +kernel
theorem dL_law_415 : decode cL_law 415 = .ok (.istore 5, 2) := by decide +kernel
theorem dL_law_417 : decode cL_law 417 = .ok (.aload_n 2, 1) := by decide +kernel
theorem dL_law_418 : decode cL_law 418 = .ok (.aload_n 0, 1) := by decide +kernel
theorem dL_law_419 : decode cL_law 419 = .ok (.iload 4, 2) := by decide +kernel
theorem dL_law_421 : decode cL_law 421 = .ok (.iconst 1, 1) := by decide +kernel
theorem dL_law_422 : decode cL_law 422 = .ok (.iadd, 1) := by decide +kernel
theorem dL_law_423 : decode cL_law 423 = .ok (.iaload, 1) := by decide +kernel
theorem dL_law_424 : decode cL_law 424 = .ok (.aload_n 0, 1) := by decide +kernel
theorem dL_law_425 : decode cL_law 425 = .ok (.iload 4, 2) := by decide +kernel
theorem dL_law_427 : decode cL_law 427 = .ok (.iconst 2, 1) := by decide +kernel
theorem dL_law_428 : decode cL_law 428 = .ok (.iadd, 1) := by decide +kernel
theorem dL_law_429 : decode cL_law 429 = .ok (.iaload, 1) := by decide +kernel
theorem dL_law_430 : decode cL_law 430 = .ok (.aload_n 0, 1) := by decide +kernel
theorem dL_law_431 : decode cL_law 431 = .ok (.iload 4, 2) := by decide +kernel
theorem dL_law_433 : decode cL_law 433 = .ok (.iconst 3, 1) := by decide +kernel
theorem dL_law_434 : decode cL_law 434 = .ok (.iadd, 1) := by decide +kernel
theorem dL_law_435 : decode cL_law 435 = .ok (.iaload, 1) := by decide +kernel
theorem dL_law_436 : decode cL_law 436 = .ok (.invokevirtual 188, 3) := by decide +kernel
theorem dL_law_439 : decode cL_law 439 = .ok (.istore 6, 2) := by decide +kernel
theorem dL_law_441 : decode cL_law 441 = .ok (.goto 1730, 3) := by decide +kernel
theorem dL_law_444 : decode cL_law 444 = .ok (.aload_n 1, 1) := by decide +kernel
theorem dL_law_445 : decode cL_law 445 = .ok (.aload_n 0, 1) := by decide +kernel
theorem dL_law_446 : decode cL_law 446 = .ok (.iload 4, 2) := by decide +kernel
theorem dL_law_448 : decode cL_law 448 = .ok (.iconst 1, 1) := by decide +kernel
theorem dL_law_449 : decode cL_law 449 = .ok (.iadd, 1) := by decide +kernel
theorem dL_law_450 : decode cL_law 450 = .ok (.iaload, 1) := by decide +kernel
theorem dL_law_451 : decode cL_law 451 = .ok (.aload_n 0, 1) := by decide +kernel
theorem dL_law_452 : decode cL_law 452 = .ok (.iload 4, 2) := by decide +kernel
theorem dL_law_454 : decode cL_law 454 = .ok (.iconst 2, 1) := by decide +kernel
theorem dL_law_455 : decode cL_law 455 = .ok (.iadd, 1) := by decide +kernel
theorem dL_law_456 : decode cL_law 456 = .ok (.iaload, 1) := by decide +kernel
theorem dL_law_457 : decode cL_law 457 = .ok (.aload_n 0, 1) := by decide +kernel
theorem dL_law_458 : decode cL_law 458 = .ok (.iload 4, 2) := by decide +kernel
theorem dL_law_460 : decode cL_law 460 = .ok (.iconst 3, 1) := by decide +kernel
theorem dL_law_461 : decode cL_law 461 = .ok (.iadd, 1) := by decide +kernel
theorem dL_law_462 : decode cL_law 462 = .ok (.iaload, 1) := by decide +kernel
theorem dL_law_463 : decode cL_law 463 = .ok (.ifCond .eq 7, 3) := by decide +kernel
theorem dL_law_466 : decode cL_law 466 = .ok (.iconst 1, 1) := by decide +kernel
theorem dL_law_467 : decode cL_law 467 = .ok (.goto 4, 3) := by decide +kernel
theorem dL_law_470 : decode cL_law 470 = .ok (.iconst 0, 1) := by decide +kernel
theorem dL_law_471 : decode cL_law 471 = .ok (.aload_n 3, 1) := by decide +kernel
theorem dL_law_472 : decode cL_law 472 = .ok (.invokestatic 189, 3) := by decide +kernel
theorem dL_law_475 : decode cL_law 475 = .ok (.istore 5, 2) := by decide +kernel
theorem dL_law_477 : decode cL_law 477 = .ok (.aload_n 2, 1) := by decide +kernel
theorem dL_law_478 : decode cL_law 478 = .ok (.aload_n 0, 1) := by decide +kernel
theorem dL_law_479 : decode cL_law 479 = .ok (.iload 4, 2) := by decide +kernel
theorem dL_law_481 : decode cL_law 481 = .ok (.iconst 1, 1) := by decide +kernel
theorem dL_law_482 : decode cL_law 482 = .ok (.iadd, 1) := by decide +kernel
theorem dL_law_483 : decode cL_law 483 = .ok (.iaload, 1) := by decide +kernel
theorem dL_law_484 : decode cL_law 484 = .ok (.aload_n 0, 1) := by decide +kernel
theorem dL_law_485 : decode cL_law 485 = .ok (.iload 4, 2) := by decide +kernel
theorem dL_law_487 : decode cL_law 487 = .ok (.iconst 2, 1) := by decide +kernel
theorem dL_law_488 : decode cL_law 488 = .ok (.iadd, 1) := by decide +kernel
theorem dL_law_489 : decode cL_law 489 = .ok (.iaload, 1) := by decide +kernel
theorem dL_law_490 : decode cL_law 490 = .ok (.aload_n 0, 1) := by decide +kernel
theorem dL_law_491 : decode cL_law 491 = .ok (.iload 4, 2) := by decide +kernel
theorem dL_law_493 : decode cL_law 493 = .ok (.iconst 3, 1) := by decide +kernel
theorem dL_law_494 : decode cL_law 494 = .ok (.iadd, 1) := by decide +kernel
theorem dL_law_495 : decode cL_law 495 = .ok (.iaload, 1) := by decide +kernel
theorem dL_law_496 : decode cL_law 496 = .ok (.ifCond .eq 7, 3) := by decide +kernel
theorem dL_law_499 : decode cL_law 499 = .ok (.iconst 1, 1) := by decide +kernel
theorem dL_law_500 : decode cL_law 500 = .ok (.goto 4, 3) := by decide +kernel
theorem dL_law_503 : decode cL_law 503 = .ok (.iconst 0, 1) := by decide +kernel
theorem dL_law_504 : decode cL_law 504 = .ok (.invokevirtual 191, 3) := by decide +kernel
theorem dL_law_507 : decode cL_law 507 = .ok (.istore 6, 2) := by decide +kernel
theorem dL_law_509 : decode cL_law 509 = .ok (.goto 1662, 3) := by decide +kernel
theorem dL_law_512 : decode cL_law 512 = .ok (.aload_n 1, 1) := by decide +kernel
theorem dL_law_513 : decode cL_law 513 = .ok (.aload_n 0, 1) := by decide +kernel
theorem dL_law_514 : decode cL_law 514 = .ok (.iload 4, 2) := by decide +kernel
theorem dL_law_516 : decode cL_law 516 = .ok (.iconst 1, 1) := by decide +kernel
theorem dL_law_517 : decode cL_law 517 = .ok (.iadd, 1) := by decide +kernel
theorem dL_law_518 : decode cL_law 518 = .ok (.iaload, 1) := by decide +kernel
theorem dL_law_519 : decode cL_law 519 = .ok (.aload_n 0, 1) := by decide +kernel
theorem dL_law_520 : decode cL_law 520 = .ok (.iload 4, 2) := by decide +kernel
theorem dL_law_522 : decode cL_law 522 = .ok (.iconst 2, 1) := by decide +kernel
theorem dL_law_523 : decode cL_law 523 = .ok (.iadd, 1) := by decide +kernel
theorem dL_law_524 : decode cL_law 524 = .ok (.iaload, 1) := by decide +kernel
theorem dL_law_525 : decode cL_law 525 = .ok (.aload_n 3, 1) := by decide +kernel
theorem dL_law_526 : decode cL_law 526 = .ok (.invokestatic 192, 3) := by decide +kernel
theorem dL_law_529 : decode cL_law 529 = .ok (.istore 5, 2) := by decide +kernel
theorem dL_law_531 : decode cL_law 531 = .ok (.aload_n 2, 1) := by decide +kernel
theorem dL_law_532 : decode cL_law 532 = .ok (.aload_n 0, 1) := by decide +kernel
theorem dL_law_533 : decode cL_law 533 = .ok (.iload 4, 2) := by decide +kernel
theorem dL_law_535 : decode cL_law 535 = .ok (.iconst 1, 1) := by decide +kernel
theorem dL_law_536 : decode cL_law 536 = .ok (.iadd, 1) := by decide +kernel
theorem dL_law_537 : decode cL_law 537 = .ok (.iaload, 1) := by decide +kernel
theorem dL_law_538 : decode cL_law 538 = .ok (.aload_n 0, 1) := by decide +kernel
theorem dL_law_539 : decode cL_law 539 = .ok (.iload 4, 2) := by decide +kernel
theorem dL_law_541 : decode cL_law 541 = .ok (.iconst 2, 1) := by decide +kernel
theorem dL_law_542 : decode cL_law 542 = .ok (.iadd, 1) := by decide +kernel
theorem dL_law_543 : decode cL_law 543 = .ok (.iaload, 1) := by decide +kernel
theorem dL_law_544 : decode cL_law 544 = .ok (.invokevirtual 194, 3) := by decide +kernel
theorem dL_law_547 : decode cL_law 547 = .ok (.istore 6, 2) := by decide +kernel
theorem dL_law_549 : decode cL_law 549 = .ok (.goto 1622, 3) := by decide +kernel
theorem dL_law_552 : decode cL_law 552 = .ok (.aload_n 1, 1) := by decide +kernel
theorem dL_law_553 : decode cL_law 553 = .ok (.aload_n 0, 1) := by decide +kernel
theorem dL_law_554 : decode cL_law 554 = .ok (.iload 4, 2) := by decide +kernel
theorem dL_law_556 : decode cL_law 556 = .ok (.iconst 1, 1) := by decide +kernel
theorem dL_law_557 : decode cL_law 557 = .ok (.iadd, 1) := by decide +kernel
theorem dL_law_558 : decode cL_law 558 = .ok (.iaload, 1) := by decide +kernel
theorem dL_law_559 : decode cL_law 559 = .ok (.aload_n 0, 1) := by decide +kernel
theorem dL_law_560 : decode cL_law 560 = .ok (.iload 4, 2) := by decide +kernel
theorem dL_law_562 : decode cL_law 562 = .ok (.iconst 2, 1) := by decide +kernel
theorem dL_law_563 : decode cL_law 563 = .ok (.iadd, 1) := by decide +kernel
theorem dL_law_564 : decode cL_law 564 = .ok (.iaload, 1) := by decide +kernel
theorem dL_law_565 : decode cL_law 565 = .ok (.aload_n 0, 1) := by decide +kernel
theorem dL_law_566 : decode cL_law 566 = .ok (.iload 4, 2) := by decide +kernel
theorem dL_law_568 : decode cL_law 568 = .ok (.iconst 3, 1) := by decide +kernel
theorem dL_law_569 : decode cL_law 569 = .ok (.iadd, 1) := by decide +kernel
theorem dL_law_570 : decode cL_law 570 = .ok (.iaload, 1) := by decide +kernel
theorem dL_law_571 : decode cL_law 571 = .ok (.aload_n 3, 1) := by decide +kernel
theorem dL_law_572 : decode cL_law 572 = .ok (.invokestatic 195, 3) := by decide +kernel
theorem dL_law_575 : decode cL_law 575 = .ok (.istore 5, 2) := by decide +kernel
theorem dL_law_577 : decode cL_law 577 = .ok (.aload_n 2, 1) := by decide +kernel
theorem dL_law_578 : decode cL_law 578 = .ok (.aload_n 0, 1) := by decide +kernel
theorem dL_law_579 : decode cL_law 579 = .ok (.iload 4, 2) := by decide +kernel
theorem dL_law_581 : decode cL_law 581 = .ok (.iconst 1, 1) := by decide +kernel
theorem dL_law_582 : decode cL_law 582 = .ok (.iadd, 1) := by decide +kernel
theorem dL_law_583 : decode cL_law 583 = .ok (.iaload, 1) := by decide +kernel
theorem dL_law_584 : decode cL_law 584 = .ok (.aload_n 0, 1) := by decide +kernel
theorem dL_law_585 : decode cL_law 585 = .ok (.iload 4, 2) := by decide +kernel
theorem dL_law_587 : decode cL_law 587 = .ok (.iconst 2, 1) := by decide +kernel
theorem dL_law_588 : decode cL_law 588 = .ok (.iadd, 1) := by decide +kernel
theorem dL_law_589 : decode cL_law 589 = .ok (.iaload, 1) := by decide +kernel
theorem dL_law_590 : decode cL_law 590 = .ok (.aload_n 0, 1) := by decide +kernel
theorem dL_law_591 : decode cL_law 591 = .ok (.iload 4, 2) := by decide +kernel
theorem dL_law_593 : decode cL_law 593 = .ok (.iconst 3, 1) := by decide +kernel
theorem dL_law_594 : decode cL_law 594 = .ok (.iadd, 1) := by decide +kernel
theorem dL_law_595 : decode cL_law 595 = .ok (.iaload, 1) := by decide +kernel
theorem dL_law_596 : decode cL_law 596 = .ok (.invokevirtual 197, 3) := by decide +kernel
theorem dL_law_599 : decode cL_law 599 = .ok (.istore 6, 2) := by decide +kernel
theorem dL_law_601 : decode cL_law 601 = .ok (.goto 1570, 3) := by decide +kernel
theorem dL_law_604 : decode cL_law 604 = .ok (.aload_n 1, 1) := by decide +kernel
theorem dL_law_605 : decode cL_law 605 = .ok (.aload_n 0, 1) := by decide +kernel
theorem dL_law_606 : decode cL_law 606 = .ok (.iload 4, 2) := by decide +kernel
theorem dL_law_608 : decode cL_law 608 = .ok (.iconst 1, 1) := by decide +kernel
theorem dL_law_609 : decode cL_law 609 = .ok (.iadd, 1) := by decide +kernel
theorem dL_law_610 : decode cL_law 610 = .ok (.iaload, 1) := by decide +kernel
theorem dL_law_611 : decode cL_law 611 = .ok (.aload_n 0, 1) := by decide +kernel
theorem dL_law_612 : decode cL_law 612 = .ok (.iload 4, 2) := by decide +kernel
theorem dL_law_614 : decode cL_law 614 = .ok (.iconst 2, 1) := by decide +kernel
theorem dL_law_615 : decode cL_law 615 = .ok (.iadd, 1) := by decide +kernel
theorem dL_law_616 : decode cL_law 616 = .ok (.iaload, 1) := by decide +kernel
theorem dL_law_617 : decode cL_law 617 = .ok (.aload_n 0, 1) := by decide +kernel
theorem dL_law_618 : decode cL_law 618 = .ok (.iload 4, 2) := by decide +kernel
theorem dL_law_620 : decode cL_law 620 = .ok (.iconst 3, 1) := by decide +kernel
theorem dL_law_621 : decode cL_law 621 = .ok (.iadd, 1) := by decide +kernel
theorem dL_law_622 : decode cL_law 622 = .ok (.iaload, 1) := by decide +kernel
theorem dL_law_623 : decode cL_law 623 = .ok (.aload_n 0, 1) := by decide +kernel
theorem dL_law_624 : decode cL_law 624 = .ok (.iload 4, 2) := by decide +kernel
theorem dL_law_626 : decode cL_law 626 = .ok (.iconst 4, 1) := by decide +kernel
theorem dL_law_627 : decode cL_law 627 = .ok (.iadd, 1) := by decide +kernel
theorem dL_law_628 : decode cL_law 628 = .ok (.iaload, 1) := by decide +kernel
theorem dL_law_629 : decode cL_law 629 = .ok (.aload_n 3, 1) := by decide +kernel
theorem dL_law_630 : decode cL_law 630 = .ok (.invokestatic 198, 3) := by decide +kernel
theorem dL_law_633 : decode cL_law 633 = .ok (.istore 5, 2) := by decide +kernel
theorem dL_law_635 : decode cL_law 635 = .ok (.aload_n 2, 1) := by decide +kernel
theorem dL_law_636 : decode cL_law 636 = .ok (.aload_n 0, 1) := by decide +kernel
theorem dL_law_637 : decode cL_law 637 = .ok (.iload 4, 2) := by decide +kernel
theorem dL_law_639 : decode cL_law 639 = .ok (.iconst 1, 1) := by decide +kernel
theorem dL_law_640 : decode cL_law 640 = .ok (.iadd, 1) := by decide +kernel
theorem dL_law_641 : decode cL_law 641 = .ok (.iaload, 1) := by decide +kernel
theorem dL_law_642 : decode cL_law 642 = .ok (.aload_n 0, 1) := by decide +kernel
theorem dL_law_643 : decode cL_law 643 = .ok (.iload 4, 2) := by decide +kernel
theorem dL_law_645 : decode cL_law 645 = .ok (.iconst 2, 1) := by decide +kernel
theorem dL_law_646 : decode cL_law 646 = .ok (.iadd, 1) := by decide +kernel
theorem dL_law_647 : decode cL_law 647 = .ok (.iaload, 1) := by decide +kernel
theorem dL_law_648 : decode cL_law 648 = .ok (.aload_n 0, 1) := by decide +kernel
theorem dL_law_649 : decode cL_law 649 = .ok (.iload 4, 2) := by decide +kernel
theorem dL_law_651 : decode cL_law 651 = .ok (.iconst 3, 1) := by decide +kernel
theorem dL_law_652 : decode cL_law 652 = .ok (.iadd, 1) := by decide +kernel
theorem dL_law_653 : decode cL_law 653 = .ok (.iaload, 1) := by decide +kernel
theorem dL_law_654 : decode cL_law 654 = .ok (.aload_n 0, 1) := by decide +kernel
theorem dL_law_655 : decode cL_law 655 = .ok (.iload 4, 2) := by decide +kernel
theorem dL_law_657 : decode cL_law 657 = .ok (.iconst 4, 1) := by decide +kernel
theorem dL_law_658 : decode cL_law 658 = .ok (.iadd, 1) := by decide +kernel
theorem dL_law_659 : decode cL_law 659 = .ok (.iaload, 1) := by decide +kernel
theorem dL_law_660 : decode cL_law 660 = .ok (.invokevirtual 201, 3) := by decide +kernel
theorem dL_law_663 : decode cL_law 663 = .ok (.istore 6, 2) := by decide +kernel
theorem dL_law_665 : decode cL_law 665 = .ok (.goto 1506, 3) := by decide +kernel
theorem dL_law_668 : decode cL_law 668 = .ok (.aload_n 1, 1) := by decide +kernel
theorem dL_law_669 : decode cL_law 669 = .ok (.aload_n 0, 1) := by decide +kernel
theorem dL_law_670 : decode cL_law 670 = .ok (.iload 4, 2) := by decide +kernel
theorem dL_law_672 : decode cL_law 672 = .ok (.iconst 1, 1) := by decide +kernel
theorem dL_law_673 : decode cL_law 673 = .ok (.iadd, 1) := by decide +kernel
theorem dL_law_674 : decode cL_law 674 = .ok (.iaload, 1) := by decide +kernel
theorem dL_law_675 : decode cL_law 675 = .ok (.aload_n 0, 1) := by decide +kernel
theorem dL_law_676 : decode cL_law 676 = .ok (.iload 4, 2) := by decide +kernel
theorem dL_law_678 : decode cL_law 678 = .ok (.iconst 2, 1) := by decide +kernel
theorem dL_law_679 : decode cL_law 679 = .ok (.iadd, 1) := by decide +kernel
theorem dL_law_680 : decode cL_law 680 = .ok (.iaload, 1) := by decide +kernel
theorem dL_law_681 : decode cL_law 681 = .ok (.aload_n 3, 1) := by decide +kernel
theorem dL_law_682 : decode cL_law 682 = .ok (.invokestatic 202, 3) := by decide +kernel
theorem dL_law_685 : decode cL_law 685 = .ok (.istore 5, 2) := by decide +kernel
theorem dL_law_687 : decode cL_law 687 = .ok (.aload_n 2, 1) := by decide +kernel
theorem dL_law_688 : decode cL_law 688 = .ok (.aload_n 0, 1) := by decide +kernel
theorem dL_law_689 : decode cL_law 689 = .ok (.iload 4, 2) := by decide +kernel
theorem dL_law_691 : decode cL_law 691 = .ok (.iconst 1, 1) := by decide +kernel
theorem dL_law_692 : decode cL_law 692 = .ok (.iadd, 1) := by decide +kernel
theorem dL_law_693 : decode cL_law 693 = .ok (.iaload, 1) := by decide +kernel
theorem dL_law_694 : decode cL_law 694 = .ok (.aload_n 0, 1) := by decide +kernel
theorem dL_law_695 : decode cL_law 695 = .ok (.iload 4, 2) := by decide +kernel
theorem dL_law_697 : decode cL_law 697 = .ok (.iconst 2, 1) := by decide +kernel
theorem dL_law_698 : decode cL_law 698 = .ok (.iadd, 1) := by decide +kernel
theorem dL_law_699 : decode cL_law 699 = .ok (.iaload, 1) := by decide +kernel
theorem dL_law_700 : decode cL_law 700 = .ok (.invokevirtual 204, 3) := by decide +kernel
theorem dL_law_703 : decode cL_law 703 = .ok (.istore 6, 2) := by decide +kernel
theorem dL_law_705 : decode cL_law 705 = .ok (.goto 1466, 3) := by decide +kernel
theorem dL_law_708 : decode cL_law 708 = .ok (.aload_n 1, 1) := by decide +kernel
theorem dL_law_709 : decode cL_law 709 = .ok (.aload_n 0, 1) := by decide +kernel
theorem dL_law_710 : decode cL_law 710 = .ok (.iload 4, 2) := by decide +kernel
theorem dL_law_712 : decode cL_law 712 = .ok (.iconst 1, 1) := by decide +kernel
theorem dL_law_713 : decode cL_law 713 = .ok (.iadd, 1) := by decide +kernel
theorem dL_law_714 : decode cL_law 714 = .ok (.iaload, 1) := by decide +kernel
theorem dL_law_715 : decode cL_law 715 = .ok (.aload_n 3, 1) := by decide +kernel
theorem dL_law_716 : decode cL_law 716 = .ok (.invokestatic 205, 3) := by decide +kernel
theorem dL_law_719 : decode cL_law 719 = .ok (.istore 5, 2) := by decide +kernel
theorem dL_law_721 : decode cL_law 721 = .ok (.aload_n 2, 1) := by decide +kernel
theorem dL_law_722 : decode cL_law 722 = .ok (.aload_n 0, 1) := by decide +kernel
