def lkcJ6_compare_7cf53_0 : List UInt8 := [0x1a, 0x1b, 0xa2, 0x00, 0x07, 0x02, 0xa7, 0x00, 0x0d, 0x1a, 0x1b, 0xa0, 0x00, 0x07, 0x03, 0xa7, 0x00, 0x04, 0x04, 0xac]
def tkcJ6_compare_7cf53_0 : List UInt8 := lkcJ6_compare_7cf53_0 ++ []
theorem drcJ6_compare_7cf53_0 : (cJ6_compare_7cf53).data.toList.drop 0 = lkcJ6_compare_7cf53_0 ++ [] := by decide +kernel
theorem dJ6_compare_7cf53_0 : decode cJ6_compare_7cf53 0 = .ok (.iload_n 0, 1) := dec_26 (gB drcJ6_compare_7cf53_0 0 rfl rfl)
theorem dJ6_compare_7cf53_1 : decode cJ6_compare_7cf53 1 = .ok (.iload_n 1, 1) := dec_27 (gB drcJ6_compare_7cf53_0 1 rfl rfl)
theorem dJ6_compare_7cf53_2 : decode cJ6_compare_7cf53 2 = .ok (.if_icmp .ge 7, 3) := dec_162 (a := 0) (b := 7) (gB drcJ6_compare_7cf53_0 2 rfl rfl) (gB drcJ6_compare_7cf53_0 3 rfl rfl) (gB drcJ6_compare_7cf53_0 4 rfl rfl)
theorem dJ6_compare_7cf53_5 : decode cJ6_compare_7cf53 5 = .ok (.iconst (-1), 1) := dec_2 (gB drcJ6_compare_7cf53_0 5 rfl rfl)
theorem dJ6_compare_7cf53_6 : decode cJ6_compare_7cf53 6 = .ok (.goto 13, 3) := dec_167 (a := 0) (b := 13) (gB drcJ6_compare_7cf53_0 6 rfl rfl) (gB drcJ6_compare_7cf53_0 7 rfl rfl) (gB drcJ6_compare_7cf53_0 8 rfl rfl)
theorem dJ6_compare_7cf53_9 : decode cJ6_compare_7cf53 9 = .ok (.iload_n 0, 1) := dec_26 (gB drcJ6_compare_7cf53_0 9 rfl rfl)
theorem dJ6_compare_7cf53_10 : decode cJ6_compare_7cf53 10 = .ok (.iload_n 1, 1) := dec_27 (gB drcJ6_compare_7cf53_0 10 rfl rfl)
theorem dJ6_compare_7cf53_11 : decode cJ6_compare_7cf53 11 = .ok (.if_icmp .ne 7, 3) := dec_160 (a := 0) (b := 7) (gB drcJ6_compare_7cf53_0 11 rfl rfl) (gB drcJ6_compare_7cf53_0 12 rfl rfl) (gB drcJ6_compare_7cf53_0 13 rfl rfl)
theorem dJ6_compare_7cf53_14 : decode cJ6_compare_7cf53 14 = .ok (.iconst 0, 1) := dec_3 (gB drcJ6_compare_7cf53_0 14 rfl rfl)
theorem dJ6_compare_7cf53_15 : decode cJ6_compare_7cf53 15 = .ok (.goto 4, 3) := dec_167 (a := 0) (b := 4) (gB drcJ6_compare_7cf53_0 15 rfl rfl) (gB drcJ6_compare_7cf53_0 16 rfl rfl) (gB drcJ6_compare_7cf53_0 17 rfl rfl)
theorem dJ6_compare_7cf53_18 : decode cJ6_compare_7cf53 18 = .ok (.iconst 1, 1) := dec_4 (gB drcJ6_compare_7cf53_0 18 rfl rfl)
theorem dJ6_compare_7cf53_19 : decode cJ6_compare_7cf53 19 = .ok (.ireturn, 1) := dec_172 (gB drcJ6_compare_7cf53_0 19 rfl rfl)
def lkcJ9_max_7cf53_0 : List UInt8 := [0x1a, 0x1b, 0xa1, 0x00, 0x07, 0x1a, 0xa7, 0x00, 0x04, 0x1b, 0xac]
def tkcJ9_max_7cf53_0 : List UInt8 := lkcJ9_max_7cf53_0 ++ []
theorem drcJ9_max_7cf53_0 : (cJ9_max_7cf53).data.toList.drop 0 = lkcJ9_max_7cf53_0 ++ [] := by decide +kernel
theorem dJ9_max_7cf53_0 : decode cJ9_max_7cf53 0 = .ok (.iload_n 0, 1) := dec_26 (gB drcJ9_max_7cf53_0 0 rfl rfl)
theorem dJ9_max_7cf53_1 : decode cJ9_max_7cf53 1 = .ok (.iload_n 1, 1) := dec_27 (gB drcJ9_max_7cf53_0 1 rfl rfl)
theorem dJ9_max_7cf53_2 : decode cJ9_max_7cf53 2 = .ok (.if_icmp .lt 7, 3) := dec_161 (a := 0) (b := 7) (gB drcJ9_max_7cf53_0 2 rfl rfl) (gB drcJ9_max_7cf53_0 3 rfl rfl) (gB drcJ9_max_7cf53_0 4 rfl rfl)
theorem dJ9_max_7cf53_5 : decode cJ9_max_7cf53 5 = .ok (.iload_n 0, 1) := dec_26 (gB drcJ9_max_7cf53_0 5 rfl rfl)
theorem dJ9_max_7cf53_6 : decode cJ9_max_7cf53 6 = .ok (.goto 4, 3) := dec_167 (a := 0) (b := 4) (gB drcJ9_max_7cf53_0 6 rfl rfl) (gB drcJ9_max_7cf53_0 7 rfl rfl) (gB drcJ9_max_7cf53_0 8 rfl rfl)
theorem dJ9_max_7cf53_9 : decode cJ9_max_7cf53 9 = .ok (.iload_n 1, 1) := dec_27 (gB drcJ9_max_7cf53_0 9 rfl rfl)
theorem dJ9_max_7cf53_10 : decode cJ9_max_7cf53 10 = .ok (.ireturn, 1) := dec_172 (gB drcJ9_max_7cf53_0 10 rfl rfl)
def lkcJ9_min_7cf53_0 : List UInt8 := [0x1a, 0x1b, 0xa3, 0x00, 0x07, 0x1a, 0xa7, 0x00, 0x04, 0x1b, 0xac]
def tkcJ9_min_7cf53_0 : List UInt8 := lkcJ9_min_7cf53_0 ++ []
theorem drcJ9_min_7cf53_0 : (cJ9_min_7cf53).data.toList.drop 0 = lkcJ9_min_7cf53_0 ++ [] := by decide +kernel
theorem dJ9_min_7cf53_0 : decode cJ9_min_7cf53 0 = .ok (.iload_n 0, 1) := dec_26 (gB drcJ9_min_7cf53_0 0 rfl rfl)
theorem dJ9_min_7cf53_1 : decode cJ9_min_7cf53 1 = .ok (.iload_n 1, 1) := dec_27 (gB drcJ9_min_7cf53_0 1 rfl rfl)
theorem dJ9_min_7cf53_2 : decode cJ9_min_7cf53 2 = .ok (.if_icmp .gt 7, 3) := dec_163 (a := 0) (b := 7) (gB drcJ9_min_7cf53_0 2 rfl rfl) (gB drcJ9_min_7cf53_0 3 rfl rfl) (gB drcJ9_min_7cf53_0 4 rfl rfl)
theorem dJ9_min_7cf53_5 : decode cJ9_min_7cf53 5 = .ok (.iload_n 0, 1) := dec_26 (gB drcJ9_min_7cf53_0 5 rfl rfl)
theorem dJ9_min_7cf53_6 : decode cJ9_min_7cf53 6 = .ok (.goto 4, 3) := dec_167 (a := 0) (b := 4) (gB drcJ9_min_7cf53_0 6 rfl rfl) (gB drcJ9_min_7cf53_0 7 rfl rfl) (gB drcJ9_min_7cf53_0 8 rfl rfl)
theorem dJ9_min_7cf53_9 : decode cJ9_min_7cf53 9 = .ok (.iload_n 1, 1) := dec_27 (gB drcJ9_min_7cf53_0 9 rfl rfl)
theorem dJ9_min_7cf53_10 : decode cJ9_min_7cf53 10 = .ok (.ireturn, 1) := dec_172 (gB drcJ9_min_7cf53_0 10 rfl rfl)
