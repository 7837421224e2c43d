theorem dX7_init_0 : decode cX7_init 0 = .ok (.aload_n 0, 1) := by decide +kernel
theorem dX7_init_1 : decode cX7_init 1 = .ok (.invokespecial 1, 3) := by decide +kernel
theorem dX7_init_4 : decode cX7_init 4 = .ok (.aload_n 0, 1) := by decide +kernel
theorem dX7_init_5 : decode cX7_init 5 = .ok (.bipush 100, 2) := by decide +kernel
theorem dX7_init_7 : decode cX7_init 7 = .ok (.newarray .byte, 2) := by decide +kernel
theorem dX7_init_9 : decode cX7_init 9 = .ok (.putfield 7, 3) := by decide +kernel
theorem dX7_init_12 : decode cX7_init 12 = .ok (.aload_n 0, 1) := by decide +kernel
theorem dX7_init_13 : decode cX7_init 13 = .ok (.bipush 6, 2) := by decide +kernel
theorem dX7_init_15 : decode cX7_init 15 = .ok (.newarray .int, 2) := by decide +kernel
theorem dX7_init_17 : decode cX7_init 17 = .ok (.putfield 13, 3) := by decide +kernel
theorem dX7_init_20 : decode cX7_init 20 = .ok (.aload_n 0, 1) := by decide +kernel
theorem dX7_init_21 : decode cX7_init 21 = .ok (.bipush 6, 2) := by decide +kernel
theorem dX7_init_23 : decode cX7_init 23 = .ok (.newarray .int, 2) := by decide +kernel
theorem dX7_init_25 : decode cX7_init 25 = .ok (.putfield 17, 3) := by decide +kernel
theorem dX7_init_28 : decode cX7_init 28 = .ok (.aload_n 0, 1) := by decide +kernel
theorem dX7_init_29 : decode cX7_init 29 = .ok (.sipush 189, 3) := by decide +kernel
theorem dX7_init_32 : decode cX7_init 32 = .ok (.newarray .int, 2) := by decide +kernel
theorem dX7_init_34 : decode cX7_init 34 = .ok (.putfield 20, 3) := by decide +kernel
theorem dX7_init_37 : decode cX7_init 37 = .ok (.aload_n 0, 1) := by decide +kernel
theorem dX7_init_38 : decode cX7_init 38 = .ok (.sipush 600, 3) := by decide +kernel
theorem dX7_init_41 : decode cX7_init 41 = .ok (.newarray .byte, 2) := by decide +kernel
theorem dX7_init_43 : decode cX7_init 43 = .ok (.putfield 23, 3) := by decide +kernel
theorem dX7_init_46 : decode cX7_init 46 = .ok (.aload_n 0, 1) := by decide +kernel
theorem dX7_init_47 : decode cX7_init 47 = .ok (.bipush 100, 2) := by decide +kernel
theorem dX7_init_49 : decode cX7_init 49 = .ok (.newarray .int, 2) := by decide +kernel
theorem dX7_init_51 : decode cX7_init 51 = .ok (.putfield 26, 3) := by decide +kernel
theorem dX7_init_54 : decode cX7_init 54 = .ok (.aload_n 0, 1) := by decide +kernel
theorem dX7_init_55 : decode cX7_init 55 = .ok (.bipush 100, 2) := by decide +kernel
theorem dX7_init_57 : decode cX7_init 57 = .ok (.newarray .int, 2) := by decide +kernel
theorem dX7_init_59 : decode cX7_init 59 = .ok (.putfield 29, 3) := by decide +kernel
theorem dX7_init_62 : decode cX7_init 62 = .ok (.aload_n 0, 1) := by decide +kernel
theorem dX7_init_63 : decode cX7_init 63 = .ok (.sipush 189, 3) := by decide +kernel
theorem dX7_init_66 : decode cX7_init 66 = .ok (.newarray .long, 2) := by decide +kernel
theorem dX7_init_68 : decode cX7_init 68 = .ok (.putfield 32, 3) := by decide +kernel
theorem dX7_init_71 : decode cX7_init 71 = .ok (.aload_n 0, 1) := by decide +kernel
theorem dX7_init_72 : decode cX7_init 72 = .ok (.bipush 81, 2) := by decide +kernel
theorem dX7_init_74 : decode cX7_init 74 = .ok (.newarray .boolean, 2) := by decide +kernel
theorem dX7_init_76 : decode cX7_init 76 = .ok (.putfield 36, 3) := by decide +kernel
theorem dX7_init_79 : decode cX7_init 79 = .ok (.aload_n 0, 1) := by decide +kernel
theorem dX7_init_80 : decode cX7_init 80 = .ok (.bipush 81, 2) := by decide +kernel
theorem dX7_init_82 : decode cX7_init 82 = .ok (.newarray .boolean, 2) := by decide +kernel
theorem dX7_init_84 : decode cX7_init 84 = .ok (.putfield 40, 3) := by decide +kernel
theorem dX7_init_87 : decode cX7_init 87 = .ok (.aload_n 0, 1) := by decide +kernel
theorem dX7_init_88 : decode cX7_init 88 = .ok (.sipush 512, 3) := by decide +kernel
theorem dX7_init_91 : decode cX7_init 91 = .ok (.newarray .int, 2) := by decide +kernel
theorem dX7_init_93 : decode cX7_init 93 = .ok (.putfield 43, 3) := by decide +kernel
theorem dX7_init_96 : decode cX7_init 96 = .ok (.aload_n 0, 1) := by decide +kernel
theorem dX7_init_97 : decode cX7_init 97 = .ok (.sipush 512, 3) := by decide +kernel
theorem dX7_init_100 : decode cX7_init 100 = .ok (.newarray .int, 2) := by decide +kernel
theorem dX7_init_102 : decode cX7_init 102 = .ok (.putfield 46, 3) := by decide +kernel
theorem dX7_init_105 : decode cX7_init 105 = .ok (.aload_n 0, 1) := by decide +kernel
theorem dX7_init_106 : decode cX7_init 106 = .ok (.sipush 512, 3) := by decide +kernel
theorem dX7_init_109 : decode cX7_init 109 = .ok (.newarray .int, 2) := by decide +kernel
theorem dX7_init_111 : decode cX7_init 111 = .ok (.putfield 49, 3) := by decide +kernel
theorem dX7_init_114 : decode cX7_init 114 = .ok (.aload_n 0, 1) := by decide +kernel
theorem dX7_init_115 : decode cX7_init 115 = .ok (.sipush 512, 3) := by decide +kernel
theorem dX7_init_118 : decode cX7_init 118 = .ok (.newarray .boolean, 2) := by decide +kernel
theorem dX7_init_120 : decode cX7_init 120 = .ok (.putfield 52, 3) := by decide +kernel
theorem dX7_init_123 : decode cX7_init 123 = .ok (.aload_n 0, 1) := by decide +kernel
theorem dX7_init_124 : decode cX7_init 124 = .ok (.bipush 27, 2) := by decide +kernel
theorem dX7_init_126 : decode cX7_init 126 = .ok (.newarray .int, 2) := by decide +kernel
theorem dX7_init_128 : decode cX7_init 128 = .ok (.putfield 55, 3) := by decide +kernel
theorem dX7_init_131 : decode cX7_init 131 = .ok (.aload_n 0, 1) := by decide +kernel
theorem dX7_init_132 : decode cX7_init 132 = .ok (.sipush 20002, 3) := by decide +kernel
theorem dX7_init_135 : decode cX7_init 135 = .ok (.newarray .long, 2) := by decide +kernel
theorem dX7_init_137 : decode cX7_init 137 = .ok (.putfield 58, 3) := by decide +kernel
theorem dX7_init_140 : decode cX7_init 140 = .ok (.aload_n 0, 1) := by decide +kernel
theorem dX7_init_141 : decode cX7_init 141 = .ok (.ldc 61, 2) := by decide +kernel
theorem dX7_init_143 : decode cX7_init 143 = .ok (.newarray .int, 2) := by decide +kernel
theorem dX7_init_145 : decode cX7_init 145 = .ok (.putfield 62, 3) := by decide +kernel
theorem dX7_init_148 : decode cX7_init 148 = .ok (.aload_n 0, 1) := by decide +kernel
theorem dX7_init_149 : decode cX7_init 149 = .ok (.sipush 4096, 3) := by decide +kernel
theorem dX7_init_152 : decode cX7_init 152 = .ok (.newarray .int, 2) := by decide +kernel
theorem dX7_init_154 : decode cX7_init 154 = .ok (.putfield 65, 3) := by decide +kernel
theorem dX7_init_157 : decode cX7_init 157 = .ok (.aload_n 0, 1) := by decide +kernel
theorem dX7_init_158 : decode cX7_init 158 = .ok (.sipush 4096, 3) := by decide +kernel
theorem dX7_init_161 : decode cX7_init 161 = .ok (.newarray .int, 2) := by decide +kernel
theorem dX7_init_163 : decode cX7_init 163 = .ok (.putfield 68, 3) := by decide +kernel
theorem dX7_init_166 : decode cX7_init 166 = .ok (.aload_n 0, 1) := by decide +kernel
theorem dX7_init_167 : decode cX7_init 167 = .ok (.sipush 4096, 3) := by decide +kernel
theorem dX7_init_170 : decode cX7_init 170 = .ok (.newarray .int, 2) := by decide +kernel
theorem dX7_init_172 : decode cX7_init 172 = .ok (.putfield 71, 3) := by decide +kernel
theorem dX7_init_175 : decode cX7_init 175 = .ok (.aload_n 0, 1) := by decide +kernel
theorem dX7_init_176 : decode cX7_init 176 = .ok (.sipush 4096, 3) := by decide +kernel
theorem dX7_init_179 : decode cX7_init 179 = .ok (.newarray .int, 2) := by decide +kernel
theorem dX7_init_181 : decode cX7_init 181 = .ok (.putfield 74, 3) := by decide +kernel
theorem dX7_init_184 : decode cX7_init 184 = .ok (.aload_n 0, 1) := by decide +kernel
theorem dX7_init_185 : decode cX7_init 185 = .ok (.bipush 9, 2) := by decide +kernel
theorem dX7_init_187 : decode cX7_init 187 = .ok (.newarray .int, 2) := by decide +kernel
theorem dX7_init_189 : decode cX7_init 189 = .ok (.putfield 77, 3) := by decide +kernel
theorem dX7_init_192 : decode cX7_init 192 = .ok (.return_, 1) := by decide +kernel
theorem dX7_thrown_0 : decode cX7_thrown 0 = .ok (.aload_n 0, 1) := by decide +kernel
theorem dX7_thrown_1 : decode cX7_thrown 1 = .ok (.getfield 80, 3) := by decide +kernel
theorem dX7_thrown_4 : decode cX7_thrown 4 = .ok (.ireturn, 1) := by decide +kernel
theorem dX7_throwsIf_0 : decode cX7_throwsIf 0 = .ok (.aload_n 0, 1) := by decide +kernel
theorem dX7_throwsIf_1 : decode cX7_throwsIf 1 = .ok (.iload_n 1, 1) := by decide +kernel
theorem dX7_throwsIf_2 : decode cX7_throwsIf 2 = .ok (.ifCond .eq 7, 3) := by decide +kernel
theorem dX7_throwsIf_5 : decode cX7_throwsIf 5 = .ok (.iconst 1, 1) := by decide +kernel
theorem dX7_throwsIf_6 : decode cX7_throwsIf 6 = .ok (.goto 4, 3) := by decide +kernel
theorem dX7_throwsIf_9 : decode cX7_throwsIf 9 = .ok (.iconst 0, 1) := by decide +kernel
theorem dX7_throwsIf_10 : decode cX7_throwsIf 10 = .ok (.putfield 80, 3) := by decide +kernel
theorem dX7_throwsIf_13 : decode cX7_throwsIf 13 = .ok (.iload_n 1, 1) := by decide +kernel
theorem dX7_throwsIf_14 : decode cX7_throwsIf 14 = .ok (.ireturn, 1) := by decide +kernel
set_option maxRecDepth 20000 in
theorem ggX7_feed_X7_four : GoodIn wsX7_feed wsX7_four := goodIn_r _ [7, 8, 2, 9, 10, 11, 12, 13, 14, 15, 16, 17, 18, 19, 20, 21, 22, 23, 24, 25, 26, 27, 28, 29, 30, 31, 32, 33, 34, 35] (by decide +kernel) (by decide +kernel)
set_option maxRecDepth 20000 in
theorem gX7_feed_X7_four : GoodIn wsX7_feed (wsV RX7 87 RX7 yX7_four wsX7_four) := goodIn_app (goodIn_of _ (by decide +kernel)) ggX7_feed_X7_four
theorem dX7_feed_0 : decode cX7_feed 0 = .ok (.aload_n 0, 1) := by decide +kernel
theorem dX7_feed_1 : decode cX7_feed 1 = .ok (.iconst 0, 1) := by decide +kernel
theorem dX7_feed_2 : decode cX7_feed 2 = .ok (.putfield 80, 3) := by decide +kernel
theorem dX7_feed_5 : decode cX7_feed 5 = .ok (.aload_n 0, 1) := by decide +kernel
theorem dX7_feed_6 : decode cX7_feed 6 = .ok (.getfield 84, 3) := by decide +kernel
theorem dX7_feed_9 : decode cX7_feed 9 = .ok (.bipush 20, 2) := by decide +kernel
theorem dX7_feed_11 : decode cX7_feed 11 = .ok (.iadd, 1) := by decide +kernel
theorem dX7_feed_12 : decode cX7_feed 12 = .ok (.bipush 100, 2) := by decide +kernel
theorem dX7_feed_14 : decode cX7_feed 14 = .ok (.if_icmp .le 5, 3) := by decide +kernel
theorem dX7_feed_17 : decode cX7_feed 17 = .ok (.iconst (-1), 1) := by decide +kernel
theorem dX7_feed_18 : decode cX7_feed 18 = .ok (.ireturn, 1) := by decide +kernel
theorem dX7_feed_19 : decode cX7_feed 19 = .ok (.aload_n 0, 1) := by decide +kernel
theorem dX7_feed_20 : decode cX7_feed 20 = .ok (.iload_n 1, 1) := by decide +kernel
theorem dX7_feed_21 : decode cX7_feed 21 = .ok (.invokevirtual 87, 3) := by decide +kernel
theorem dX7_feed_24 : decode cX7_feed 24 = .ok (.aload_n 0, 1) := by decide +kernel
theorem dX7_feed_25 : decode cX7_feed 25 = .ok (.iload_n 2, 1) := by decide +kernel
theorem dX7_feed_26 : decode cX7_feed 26 = .ok (.invokevirtual 87, 3) := by decide +kernel
theorem dX7_feed_29 : decode cX7_feed 29 = .ok (.aload_n 0, 1) := by decide +kernel
theorem dX7_feed_30 : decode cX7_feed 30 = .ok (.iload_n 3, 1) := by decide +kernel
theorem dX7_feed_31 : decode cX7_feed 31 = .ok (.invokevirtual 87, 3) := by decide +kernel
theorem dX7_feed_34 : decode cX7_feed 34 = .ok (.aload_n 0, 1) := by decide +kernel
theorem dX7_feed_35 : decode cX7_feed 35 = .ok (.iload 4, 2) := by decide +kernel
theorem dX7_feed_37 : decode cX7_feed 37 = .ok (.invokevirtual 87, 3) := by decide +kernel
theorem dX7_feed_40 : decode cX7_feed 40 = .ok (.aload_n 0, 1) := by decide +kernel
theorem dX7_feed_41 : decode cX7_feed 41 = .ok (.iload 5, 2) := by decide +kernel
theorem dX7_feed_43 : decode cX7_feed 43 = .ok (.invokevirtual 87, 3) := by decide +kernel
theorem dX7_feed_46 : decode cX7_feed 46 = .ok (.aload_n 0, 1) := by decide +kernel
theorem dX7_feed_47 : decode cX7_feed 47 = .ok (.getfield 84, 3) := by decide +kernel
theorem dX7_feed_50 : decode cX7_feed 50 = .ok (.ireturn, 1) := by decide +kernel
theorem dX7_four_0 : decode cX7_four 0 = .ok (.bipush 24, 2) := by decide +kernel
theorem dX7_four_2 : decode cX7_four 2 = .ok (.istore_n 2, 1) := by decide +kernel
theorem dX7_four_3 : decode cX7_four 3 = .ok (.iload_n 2, 1) := by decide +kernel
theorem dX7_four_4 : decode cX7_four 4 = .ok (.ifCond .lt 32, 3) := by decide +kernel
theorem dX7_four_7 : decode cX7_four 7 = .ok (.aload_n 0, 1) := by decide +kernel
theorem dX7_four_8 : decode cX7_four 8 = .ok (.getfield 7, 3) := by decide +kernel
theorem dX7_four_11 : decode cX7_four 11 = .ok (.aload_n 0, 1) := by decide +kernel
theorem dX7_four_12 : decode cX7_four 12 = .ok (.getfield 84, 3) := by decide +kernel
theorem dX7_four_15 : decode cX7_four 15 = .ok (.iload_n 1, 1) := by decide +kernel
theorem dX7_four_16 : decode cX7_four 16 = .ok (.iload_n 2, 1) := by decide +kernel
theorem dX7_four_17 : decode cX7_four 17 = .ok (.ishr, 1) := by decide +kernel
theorem dX7_four_18 : decode cX7_four 18 = .ok (.i2b, 1) := by decide +kernel
theorem dX7_four_19 : decode cX7_four 19 = .ok (.bastore, 1) := by decide +kernel
theorem dX7_four_20 : decode cX7_four 20 = .ok (.aload_n 0, 1) := by decide +kernel
theorem dX7_four_21 : decode cX7_four 21 = .ok (.dup, 1) := by decide +kernel
theorem dX7_four_22 : decode cX7_four 22 = .ok (.getfield 84, 3) := by decide +kernel
theorem dX7_four_25 : decode cX7_four 25 = .ok (.iconst 1, 1) := by decide +kernel
theorem dX7_four_26 : decode cX7_four 26 = .ok (.iadd, 1) := by decide +kernel
theorem dX7_four_27 : decode cX7_four 27 = .ok (.putfield 84, 3) := by decide +kernel
theorem dX7_four_30 : decode cX7_four 30 = .ok (.iinc 2 (-8), 3) := by decide +kernel
theorem dX7_four_33 : decode cX7_four 33 = .ok (.goto (-30), 3) := by decide +kernel
theorem dX7_four_36 : decode cX7_four 36 = .ok (.return_, 1) := by decide +kernel
theorem dX7_end_0 : decode cX7_end 0 = .ok (.aload_n 0, 1) := by decide +kernel
theorem dX7_end_1 : decode cX7_end 1 = .ok (.iconst 0, 1) := by decide +kernel
theorem dX7_end_2 : decode cX7_end 2 = .ok (.putfield 80, 3) := by decide +kernel
theorem dX7_end_5 : decode cX7_end 5 = .ok (.iload_n 1, 1) := by decide +kernel
theorem dX7_end_6 : decode cX7_end 6 = .ok (.ifCond .lt 11, 3) := by decide +kernel
theorem dX7_end_9 : decode cX7_end 9 = .ok (.iload_n 1, 1) := by decide +kernel
theorem dX7_end_10 : decode cX7_end 10 = .ok (.aload_n 0, 1) := by decide +kernel
theorem dX7_end_11 : decode cX7_end 11 = .ok (.getfield 84, 3) := by decide +kernel
theorem dX7_end_14 : decode cX7_end 14 = .ok (.if_icmp .le 5, 3) := by decide +kernel
theorem dX7_end_17 : decode cX7_end 17 = .ok (.iconst 0, 1) := by decide +kernel
theorem dX7_end_18 : decode cX7_end 18 = .ok (.ireturn, 1) := by decide +kernel
theorem dX7_end_19 : decode cX7_end 19 = .ok (.aload_n 0, 1) := by decide +kernel
theorem dX7_end_20 : decode cX7_end 20 = .ok (.iload_n 1, 1) := by decide +kernel
theorem dX7_end_21 : decode cX7_end 21 = .ok (.putfield 84, 3) := by decide +kernel
theorem dX7_end_24 : decode cX7_end 24 = .ok (.iconst 1, 1) := by decide +kernel
theorem dX7_end_25 : decode cX7_end 25 = .ok (.ireturn, 1) := by decide +kernel
theorem dX7_taken_0 : decode cX7_taken 0 = .ok (.aload_n 0, 1) := by decide +kernel
theorem dX7_taken_1 : decode cX7_taken 1 = .ok (.aload_n 0, 1) := by decide +kernel
theorem dX7_taken_2 : decode cX7_taken 2 = .ok (.getfield 84, 3) := by decide +kernel
theorem dX7_taken_5 : decode cX7_taken 5 = .ok (.putfield 91, 3) := by decide +kernel
theorem dX7_taken_8 : decode cX7_taken 8 = .ok (.aload_n 0, 1) := by decide +kernel
theorem dX7_taken_9 : decode cX7_taken 9 = .ok (.iconst 0, 1) := by decide +kernel
theorem dX7_taken_10 : decode cX7_taken 10 = .ok (.putfield 84, 3) := by decide +kernel
theorem dX7_taken_13 : decode cX7_taken 13 = .ok (.return_, 1) := by decide +kernel
theorem dX7_isSlot_0 : decode cX7_isSlot 0 = .ok (.iload_n 0, 1) := by decide +kernel
theorem dX7_isSlot_1 : decode cX7_isSlot 1 = .ok (.ifCond .lt 13, 3) := by decide +kernel
theorem dX7_isSlot_4 : decode cX7_isSlot 4 = .ok (.iload_n 0, 1) := by decide +kernel
theorem dX7_isSlot_5 : decode cX7_isSlot 5 = .ok (.bipush 6, 2) := by decide +kernel
theorem dX7_isSlot_7 : decode cX7_isSlot 7 = .ok (.if_icmp .ge 7, 3) := by decide +kernel
theorem dX7_isSlot_10 : decode cX7_isSlot 10 = .ok (.iconst 1, 1) := by decide +kernel
theorem dX7_isSlot_11 : decode cX7_isSlot 11 = .ok (.goto 4, 3) := by decide +kernel
theorem dX7_isSlot_14 : decode cX7_isSlot 14 = .ok (.iconst 0, 1) := by decide +kernel
theorem dX7_isSlot_15 : decode cX7_isSlot 15 = .ok (.ireturn, 1) := by decide +kernel
set_option maxRecDepth 20000 in
theorem ggX7_has_X7_isSlot : GoodIn wsX7_has wsX7_isSlot := goodIn_r _ [5] (by decide +kernel) (by decide +kernel)
set_option maxRecDepth 20000 in
theorem gX7_has_X7_isSlot : GoodIn wsX7_has (va_wsS RX7 94 yX7_isSlot wsX7_isSlot) := goodIn_app (goodIn_of _ (by decide +kernel)) ggX7_has_X7_isSlot
theorem dX7_has_0 : decode cX7_has 0 = .ok (.iload_n 1, 1) := by decide +kernel
theorem dX7_has_1 : decode cX7_has 1 = .ok (.invokestatic 94, 3) := by decide +kernel
theorem dX7_has_4 : decode cX7_has 4 = .ok (.ifCond .eq 16, 3) := by decide +kernel
theorem dX7_has_7 : decode cX7_has 7 = .ok (.aload_n 0, 1) := by decide +kernel
theorem dX7_has_8 : decode cX7_has 8 = .ok (.getfield 13, 3) := by decide +kernel
theorem dX7_has_11 : decode cX7_has 11 = .ok (.iload_n 1, 1) := by decide +kernel
theorem dX7_has_12 : decode cX7_has 12 = .ok (.iaload, 1) := by decide +kernel
theorem dX7_has_13 : decode cX7_has 13 = .ok (.ifCond .le 7, 3) := by decide +kernel
theorem dX7_has_16 : decode cX7_has 16 = .ok (.iconst 1, 1) := by decide +kernel
theorem dX7_has_17 : decode cX7_has 17 = .ok (.goto 4, 3) := by decide +kernel
theorem dX7_has_20 : decode cX7_has 20 = .ok (.iconst 0, 1) := by decide +kernel
theorem dX7_has_21 : decode cX7_has 21 = .ok (.ireturn, 1) := by decide +kernel
theorem dX7_power_0 : decode cX7_power 0 = .ok (.iconst 1, 1) := by decide +kernel
theorem dX7_power_1 : decode cX7_power 1 = .ok (.istore_n 2, 1) := by decide +kernel
theorem dX7_power_2 : decode cX7_power 2 = .ok (.iconst 0, 1) := by decide +kernel
theorem dX7_power_3 : decode cX7_power 3 = .ok (.istore_n 3, 1) := by decide +kernel
theorem dX7_power_4 : decode cX7_power 4 = .ok (.iload_n 3, 1) := by decide +kernel
theorem dX7_power_5 : decode cX7_power 5 = .ok (.iload_n 1, 1) := by decide +kernel
theorem dX7_power_6 : decode cX7_power 6 = .ok (.if_icmp .ge 13, 3) := by decide +kernel
theorem dX7_power_9 : decode cX7_power 9 = .ok (.iload_n 2, 1) := by decide +kernel
theorem dX7_power_10 : decode cX7_power 10 = .ok (.iload_n 0, 1) := by decide +kernel
theorem dX7_power_11 : decode cX7_power 11 = .ok (.imul, 1) := by decide +kernel
theorem dX7_power_12 : decode cX7_power 12 = .ok (.istore_n 2, 1) := by decide +kernel
theorem dX7_power_13 : decode cX7_power 13 = .ok (.iinc 3 1, 3) := by decide +kernel
theorem dX7_power_16 : decode cX7_power 16 = .ok (.goto (-12), 3) := by decide +kernel
theorem dX7_power_19 : decode cX7_power 19 = .ok (.iload_n 2, 1) := by decide +kernel
theorem dX7_power_20 : decode cX7_power 20 = .ok (.ireturn, 1) := by decide +kernel
theorem dX7_widest_0 : decode cX7_widest 0 = .ok (.iload_n 0, 1) := by decide +kernel
theorem dX7_widest_1 : decode cX7_widest 1 = .ok (.iconst 2, 1) := by decide +kernel
theorem dX7_widest_2 : decode cX7_widest 2 = .ok (.if_icmp .ne 7, 3) := by decide +kernel
theorem dX7_widest_5 : decode cX7_widest 5 = .ok (.iconst 4, 1) := by decide +kernel
theorem dX7_widest_6 : decode cX7_widest 6 = .ok (.goto 13, 3) := by decide +kernel
theorem dX7_widest_9 : decode cX7_widest 9 = .ok (.iload_n 0, 1) := by decide +kernel
theorem dX7_widest_10 : decode cX7_widest 10 = .ok (.iconst 3, 1) := by decide +kernel
theorem dX7_widest_11 : decode cX7_widest 11 = .ok (.if_icmp .ne 7, 3) := by decide +kernel
theorem dX7_widest_14 : decode cX7_widest 14 = .ok (.iconst 3, 1) := by decide +kernel
theorem dX7_widest_15 : decode cX7_widest 15 = .ok (.goto 4, 3) := by decide +kernel
theorem dX7_widest_18 : decode cX7_widest 18 = .ok (.iconst 2, 1) := by decide +kernel
theorem dX7_widest_19 : decode cX7_widest 19 = .ok (.ireturn, 1) := by decide +kernel
set_option maxRecDepth 20000 in
theorem ggX7_lay_X7_power : GoodIn wsX7_lay wsX7_power := goodIn_r _ [7] (by decide +kernel) (by decide +kernel)
set_option maxRecDepth 20000 in
theorem gX7_lay_X7_power : GoodIn wsX7_lay (va_wsS RX7 98 yX7_power wsX7_power) := goodIn_app (goodIn_of _ (by decide +kernel)) ggX7_lay_X7_power
theorem dX7_lay_0 : decode cX7_lay 0 = .ok (.iconst 0, 1) := by decide +kernel
theorem dX7_lay_1 : decode cX7_lay 1 = .ok (.istore 4, 2) := by decide +kernel
theorem dX7_lay_3 : decode cX7_lay 3 = .ok (.iload 4, 2) := by decide +kernel
theorem dX7_lay_5 : decode cX7_lay 5 = .ok (.iload_n 2, 1) := by decide +kernel
theorem dX7_lay_6 : decode cX7_lay 6 = .ok (.iload_n 3, 1) := by decide +kernel
theorem dX7_lay_7 : decode cX7_lay 7 = .ok (.invokestatic 98, 3) := by decide +kernel
theorem dX7_lay_10 : decode cX7_lay 10 = .ok (.if_icmp .ge 32, 3) := by decide +kernel
theorem dX7_lay_13 : decode cX7_lay 13 = .ok (.aload_n 0, 1) := by decide +kernel
theorem dX7_lay_14 : decode cX7_lay 14 = .ok (.getfield 20, 3) := by decide +kernel
theorem dX7_lay_17 : decode cX7_lay 17 = .ok (.bipush 27, 2) := by decide +kernel
theorem dX7_lay_19 : decode cX7_lay 19 = .ok (.iload_n 1, 1) := by decide +kernel
theorem dX7_lay_20 : decode cX7_lay 20 = .ok (.imul, 1) := by decide +kernel
theorem dX7_lay_21 : decode cX7_lay 21 = .ok (.iload 4, 2) := by decide +kernel
theorem dX7_lay_23 : decode cX7_lay 23 = .ok (.iadd, 1) := by decide +kernel
theorem dX7_lay_24 : decode cX7_lay 24 = .ok (.aload_n 0, 1) := by decide +kernel
theorem dX7_lay_25 : decode cX7_lay 25 = .ok (.getfield 20, 3) := by decide +kernel
theorem dX7_lay_28 : decode cX7_lay 28 = .ok (.sipush 162, 3) := by decide +kernel
theorem dX7_lay_31 : decode cX7_lay 31 = .ok (.iload 4, 2) := by decide +kernel
theorem dX7_lay_33 : decode cX7_lay 33 = .ok (.iadd, 1) := by decide +kernel
theorem dX7_lay_34 : decode cX7_lay 34 = .ok (.iaload, 1) := by decide +kernel
theorem dX7_lay_35 : decode cX7_lay 35 = .ok (.iastore, 1) := by decide +kernel
theorem dX7_lay_36 : decode cX7_lay 36 = .ok (.iinc 4 1, 3) := by decide +kernel
theorem dX7_lay_39 : decode cX7_lay 39 = .ok (.goto (-36), 3) := by decide +kernel
theorem dX7_lay_42 : decode cX7_lay 42 = .ok (.aload_n 0, 1) := by decide +kernel
theorem dX7_lay_43 : decode cX7_lay 43 = .ok (.getfield 13, 3) := by decide +kernel
theorem dX7_lay_46 : decode cX7_lay 46 = .ok (.iload_n 1, 1) := by decide +kernel
theorem dX7_lay_47 : decode cX7_lay 47 = .ok (.iload_n 2, 1) := by decide +kernel
theorem dX7_lay_48 : decode cX7_lay 48 = .ok (.iastore, 1) := by decide +kernel
theorem dX7_lay_49 : decode cX7_lay 49 = .ok (.aload_n 0, 1) := by decide +kernel
theorem dX7_lay_50 : decode cX7_lay 50 = .ok (.getfield 17, 3) := by decide +kernel
theorem dX7_lay_53 : decode cX7_lay 53 = .ok (.iload_n 1, 1) := by decide +kernel
theorem dX7_lay_54 : decode cX7_lay 54 = .ok (.iload_n 3, 1) := by decide +kernel
theorem dX7_lay_55 : decode cX7_lay 55 = .ok (.iastore, 1) := by decide +kernel
theorem dX7_lay_56 : decode cX7_lay 56 = .ok (.return_, 1) := by decide +kernel
set_option maxRecDepth 20000 in
theorem ggX7_rule_X7_taken : GoodIn wsX7_rule wsX7_taken := goodIn_r _ [9, 10, 2, 26, 27, 28, 29, 30, 31, 32, 33, 34, 35, 36, 37, 38, 39, 40, 41, 42, 43, 44, 45, 46, 47, 48, 49, 50, 51, 52] (by decide +kernel) (by decide +kernel)
set_option maxRecDepth 20000 in
theorem gX7_rule_X7_taken : GoodIn wsX7_rule (wsV RX7 102 RX7 yX7_taken wsX7_taken) := goodIn_app (goodIn_of _ (by decide +kernel)) ggX7_rule_X7_taken
set_option maxRecDepth 20000 in
theorem ggX7_rule_X7_isSlot : GoodIn wsX7_rule wsX7_isSlot := goodIn_r _ [13] (by decide +kernel) (by decide +kernel)
set_option maxRecDepth 20000 in
theorem gX7_rule_X7_isSlot : GoodIn wsX7_rule (va_wsS RX7 94 yX7_isSlot wsX7_isSlot) := goodIn_app (goodIn_of _ (by decide +kernel)) ggX7_rule_X7_isSlot
set_option maxRecDepth 20000 in
theorem ggX7_rule_X7_widest : GoodIn wsX7_rule wsX7_widest := goodIn_r _ [16] (by decide +kernel) (by decide +kernel)
set_option maxRecDepth 20000 in
theorem gX7_rule_X7_widest : GoodIn wsX7_rule (va_wsS RX7 105 yX7_widest wsX7_widest) := goodIn_app (goodIn_of _ (by decide +kernel)) ggX7_rule_X7_widest
set_option maxRecDepth 20000 in
theorem ggX7_rule_X7_power : GoodIn wsX7_rule wsX7_power := goodIn_r _ [19] (by decide +kernel) (by decide +kernel)
set_option maxRecDepth 20000 in
theorem gX7_rule_X7_power : GoodIn wsX7_rule (va_wsS RX7 98 yX7_power wsX7_power) := goodIn_app (goodIn_of _ (by decide +kernel)) ggX7_rule_X7_power
set_option maxRecDepth 20000 in
theorem ggX7_rule_X7_lay : GoodIn wsX7_rule wsX7_lay := goodIn_r _ [23, 4, 24, 25, 17, 18, 8, 19, 26, 27, 28, 29, 30, 31, 32, 33, 34, 35, 36, 37, 38, 39, 40, 41, 42, 43, 44, 45, 46, 47, 48, 49, 50, 51, 52] (by decide +kernel) (by decide +kernel)
set_option maxRecDepth 20000 in
theorem gX7_rule_X7_lay : GoodIn wsX7_rule (wsV RX7 109 RX7 yX7_lay wsX7_lay) := goodIn_app (goodIn_of _ (by decide +kernel)) ggX7_rule_X7_lay
theorem dX7_rule_0 : decode cX7_rule 0 = .ok (.aload_n 0, 1) := by decide +kernel
theorem dX7_rule_1 : decode cX7_rule 1 = .ok (.iconst 0, 1) := by decide +kernel
theorem dX7_rule_2 : decode cX7_rule 2 = .ok (.putfield 80, 3) := by decide +kernel
theorem dX7_rule_5 : decode cX7_rule 5 = .ok (.aload_n 0, 1) := by decide +kernel
theorem dX7_rule_6 : decode cX7_rule 6 = .ok (.invokevirtual 102, 3) := by decide +kernel
theorem dX7_rule_9 : decode cX7_rule 9 = .ok (.iload_n 1, 1) := by decide +kernel
theorem dX7_rule_10 : decode cX7_rule 10 = .ok (.invokestatic 94, 3) := by decide +kernel
theorem dX7_rule_13 : decode cX7_rule 13 = .ok (.ifCond .eq 38, 3) := by decide +kernel
theorem dX7_rule_16 : decode cX7_rule 16 = .ok (.iload_n 2, 1) := by decide +kernel
theorem dX7_rule_17 : decode cX7_rule 17 = .ok (.iconst 2, 1) := by decide +kernel
theorem dX7_rule_18 : decode cX7_rule 18 = .ok (.if_icmp .lt 33, 3) := by decide +kernel
theorem dX7_rule_21 : decode cX7_rule 21 = .ok (.iload_n 2, 1) := by decide +kernel
theorem dX7_rule_22 : decode cX7_rule 22 = .ok (.iconst 4, 1) := by decide +kernel
theorem dX7_rule_23 : decode cX7_rule 23 = .ok (.if_icmp .gt 28, 3) := by decide +kernel
theorem dX7_rule_26 : decode cX7_rule 26 = .ok (.iload_n 3, 1) := by decide +kernel
theorem dX7_rule_27 : decode cX7_rule 27 = .ok (.iconst 1, 1) := by decide +kernel
theorem dX7_rule_28 : decode cX7_rule 28 = .ok (.if_icmp .lt 23, 3) := by decide +kernel
theorem dX7_rule_31 : decode cX7_rule 31 = .ok (.iload_n 3, 1) := by decide +kernel
theorem dX7_rule_32 : decode cX7_rule 32 = .ok (.iload_n 2, 1) := by decide +kernel
theorem dX7_rule_33 : decode cX7_rule 33 = .ok (.invokestatic 105, 3) := by decide +kernel
theorem dX7_rule_36 : decode cX7_rule 36 = .ok (.if_icmp .gt 15, 3) := by decide +kernel
theorem dX7_rule_39 : decode cX7_rule 39 = .ok (.aload_n 0, 1) := by decide +kernel
theorem dX7_rule_40 : decode cX7_rule 40 = .ok (.getfield 91, 3) := by decide +kernel
theorem dX7_rule_43 : decode cX7_rule 43 = .ok (.iload_n 2, 1) := by decide +kernel
theorem dX7_rule_44 : decode cX7_rule 44 = .ok (.iload_n 3, 1) := by decide +kernel
theorem dX7_rule_45 : decode cX7_rule 45 = .ok (.invokestatic 98, 3) := by decide +kernel
theorem dX7_rule_48 : decode cX7_rule 48 = .ok (.if_icmp .eq 5, 3) := by decide +kernel
theorem dX7_rule_51 : decode cX7_rule 51 = .ok (.iconst 0, 1) := by decide +kernel
theorem dX7_rule_52 : decode cX7_rule 52 = .ok (.ireturn, 1) := by decide +kernel
theorem dX7_rule_53 : decode cX7_rule 53 = .ok (.iconst 0, 1) := by decide +kernel
theorem dX7_rule_54 : decode cX7_rule 54 = .ok (.istore 4, 2) := by decide +kernel
theorem dX7_rule_56 : decode cX7_rule 56 = .ok (.iload 4, 2) := by decide +kernel
theorem dX7_rule_58 : decode cX7_rule 58 = .ok (.aload_n 0, 1) := by decide +kernel
theorem dX7_rule_59 : decode cX7_rule 59 = .ok (.getfield 91, 3) := by decide +kernel
theorem dX7_rule_62 : decode cX7_rule 62 = .ok (.if_icmp .ge 50, 3) := by decide +kernel
theorem dX7_rule_65 : decode cX7_rule 65 = .ok (.aload_n 0, 1) := by decide +kernel
theorem dX7_rule_66 : decode cX7_rule 66 = .ok (.getfield 7, 3) := by decide +kernel
theorem dX7_rule_69 : decode cX7_rule 69 = .ok (.iload 4, 2) := by decide +kernel
theorem dX7_rule_71 : decode cX7_rule 71 = .ok (.baload, 1) := by decide +kernel
theorem dX7_rule_72 : decode cX7_rule 72 = .ok (.ifCond .lt 14, 3) := by decide +kernel
theorem dX7_rule_75 : decode cX7_rule 75 = .ok (.aload_n 0, 1) := by decide +kernel
theorem dX7_rule_76 : decode cX7_rule 76 = .ok (.getfield 7, 3) := by decide +kernel
theorem dX7_rule_79 : decode cX7_rule 79 = .ok (.iload 4, 2) := by decide +kernel
theorem dX7_rule_81 : decode cX7_rule 81 = .ok (.baload, 1) := by decide +kernel
theorem dX7_rule_82 : decode cX7_rule 82 = .ok (.iload_n 2, 1) := by decide +kernel
theorem dX7_rule_83 : decode cX7_rule 83 = .ok (.if_icmp .lt 5, 3) := by decide +kernel
theorem dX7_rule_86 : decode cX7_rule 86 = .ok (.iconst 0, 1) := by decide +kernel
theorem dX7_rule_87 : decode cX7_rule 87 = .ok (.ireturn, 1) := by decide +kernel
theorem dX7_rule_88 : decode cX7_rule 88 = .ok (.aload_n 0, 1) := by decide +kernel
theorem dX7_rule_89 : decode cX7_rule 89 = .ok (.getfield 20, 3) := by decide +kernel
theorem dX7_rule_92 : decode cX7_rule 92 = .ok (.sipush 162, 3) := by decide +kernel
theorem dX7_rule_95 : decode cX7_rule 95 = .ok (.iload 4, 2) := by decide +kernel
theorem dX7_rule_97 : decode cX7_rule 97 = .ok (.iadd, 1) := by decide +kernel
theorem dX7_rule_98 : decode cX7_rule 98 = .ok (.aload_n 0, 1) := by decide +kernel
theorem dX7_rule_99 : decode cX7_rule 99 = .ok (.getfield 7, 3) := by decide +kernel
theorem dX7_rule_102 : decode cX7_rule 102 = .ok (.iload 4, 2) := by decide +kernel
theorem dX7_rule_104 : decode cX7_rule 104 = .ok (.baload, 1) := by decide +kernel
theorem dX7_rule_105 : decode cX7_rule 105 = .ok (.iastore, 1) := by decide +kernel
theorem dX7_rule_106 : decode cX7_rule 106 = .ok (.iinc 4 1, 3) := by decide +kernel
theorem dX7_rule_109 : decode cX7_rule 109 = .ok (.goto (-53), 3) := by decide +kernel
theorem dX7_rule_112 : decode cX7_rule 112 = .ok (.aload_n 0, 1) := by decide +kernel
theorem dX7_rule_113 : decode cX7_rule 113 = .ok (.iload_n 1, 1) := by decide +kernel
theorem dX7_rule_114 : decode cX7_rule 114 = .ok (.iload_n 2, 1) := by decide +kernel
theorem dX7_rule_115 : decode cX7_rule 115 = .ok (.iload_n 3, 1) := by decide +kernel
theorem dX7_rule_116 : decode cX7_rule 116 = .ok (.invokevirtual 109, 3) := by decide +kernel
theorem dX7_rule_119 : decode cX7_rule 119 = .ok (.iconst 1, 1) := by decide +kernel
theorem dX7_rule_120 : decode cX7_rule 120 = .ok (.ireturn, 1) := by decide +kernel
theorem dX7_tells_0 : decode cX7_tells 0 = .ok (.aload_n 0, 1) := by decide +kernel
theorem dX7_tells_1 : decode cX7_tells 1 = .ok (.getfield 20, 3) := by decide +kernel
theorem dX7_tells_4 : decode cX7_tells 4 = .ok (.bipush 27, 2) := by decide +kernel
theorem dX7_tells_6 : decode cX7_tells 6 = .ok (.iload_n 1, 1) := by decide +kernel
theorem dX7_tells_7 : decode cX7_tells 7 = .ok (.imul, 1) := by decide +kernel
theorem dX7_tells_8 : decode cX7_tells 8 = .ok (.iload_n 2, 1) := by decide +kernel
theorem dX7_tells_9 : decode cX7_tells 9 = .ok (.iadd, 1) := by decide +kernel
theorem dX7_tells_10 : decode cX7_tells 10 = .ok (.iaload, 1) := by decide +kernel
theorem dX7_tells_11 : decode cX7_tells 11 = .ok (.ireturn, 1) := by decide +kernel
set_option maxRecDepth 20000 in
theorem ggX7_octet_X7_throwsIf : GoodIn wsX7_octet wsX7_throwsIf := goodIn_r _ [7, 8, 9, 10, 11, 12, 13, 14, 15, 16, 17, 18, 19, 20, 21, 22, 23, 24, 25, 26, 27, 28, 29, 30, 31, 32, 33, 34, 35] (by decide +kernel) (by decide +kernel)
set_option maxRecDepth 20000 in
theorem gX7_octet_X7_throwsIf : GoodIn wsX7_octet (wsV RX7 116 RX7 yX7_throwsIf wsX7_throwsIf) := goodIn_app (goodIn_of _ (by decide +kernel)) ggX7_octet_X7_throwsIf
theorem dX7_octet_0 : decode cX7_octet 0 = .ok (.aload_n 0, 1) := by decide +kernel
theorem dX7_octet_1 : decode cX7_octet 1 = .ok (.iload_n 1, 1) := by decide +kernel
theorem dX7_octet_2 : decode cX7_octet 2 = .ok (.ifCond .lt 11, 3) := by decide +kernel
theorem dX7_octet_5 : decode cX7_octet 5 = .ok (.iload_n 1, 1) := by decide +kernel
theorem dX7_octet_6 : decode cX7_octet 6 = .ok (.aload_n 0, 1) := by decide +kernel
theorem dX7_octet_7 : decode cX7_octet 7 = .ok (.getfield 113, 3) := by decide +kernel
theorem dX7_octet_10 : decode cX7_octet 10 = .ok (.if_icmp .lt 7, 3) := by decide +kernel
theorem dX7_octet_13 : decode cX7_octet 13 = .ok (.iconst 1, 1) := by decide +kernel
theorem dX7_octet_14 : decode cX7_octet 14 = .ok (.goto 4, 3) := by decide +kernel
theorem dX7_octet_17 : decode cX7_octet 17 = .ok (.iconst 0, 1) := by decide +kernel
theorem dX7_octet_18 : decode cX7_octet 18 = .ok (.invokevirtual 116, 3) := by decide +kernel
theorem dX7_octet_21 : decode cX7_octet 21 = .ok (.ifCond .eq 7, 3) := by decide +kernel
theorem dX7_octet_24 : decode cX7_octet 24 = .ok (.iconst 0, 1) := by decide +kernel
theorem dX7_octet_25 : decode cX7_octet 25 = .ok (.goto 9, 3) := by decide +kernel
theorem dX7_octet_28 : decode cX7_octet 28 = .ok (.aload_n 0, 1) := by decide +kernel
theorem dX7_octet_29 : decode cX7_octet 29 = .ok (.getfield 23, 3) := by decide +kernel
theorem dX7_octet_32 : decode cX7_octet 32 = .ok (.iload_n 1, 1) := by decide +kernel
theorem dX7_octet_33 : decode cX7_octet 33 = .ok (.baload, 1) := by decide +kernel
theorem dX7_octet_34 : decode cX7_octet 34 = .ok (.ireturn, 1) := by decide +kernel
set_option maxRecDepth 20000 in
theorem ggX7_table_X7_has : GoodIn wsX7_table wsX7_has := goodIn_r _ [10, 2, 11, 12, 9, 13, 22, 23, 24, 25, 26, 27, 28, 29, 30, 31, 32, 33, 34, 35, 36, 37, 38, 39, 40, 41, 42, 43, 44, 45, 46, 47, 48] (by decide +kernel) (by decide +kernel)
set_option maxRecDepth 20000 in
theorem gX7_table_X7_has : GoodIn wsX7_table (wsV RX7 120 RX7 yX7_has wsX7_has) := goodIn_app (goodIn_of _ (by decide +kernel)) ggX7_table_X7_has
set_option maxRecDepth 20000 in
theorem ggX7_table_X7_power : GoodIn wsX7_table wsX7_power := goodIn_r _ [16] (by decide +kernel) (by decide +kernel)
set_option maxRecDepth 20000 in
theorem gX7_table_X7_power : GoodIn wsX7_table (va_wsS RX7 98 yX7_power wsX7_power) := goodIn_app (goodIn_of _ (by decide +kernel)) ggX7_table_X7_power
set_option maxRecDepth 20000 in
theorem ggX7_table_X7_tells : GoodIn wsX7_table wsX7_tells := goodIn_r _ [20, 21, 22, 23, 24, 25, 26, 27, 28, 29, 30, 31, 32, 33, 34, 35, 36, 37, 38, 39, 40, 41, 42, 43, 44, 45, 46, 47, 48] (by decide +kernel) (by decide +kernel)
set_option maxRecDepth 20000 in
theorem gX7_table_X7_tells : GoodIn wsX7_table (wsV RX7 123 RX7 yX7_tells wsX7_tells) := goodIn_app (goodIn_of _ (by decide +kernel)) ggX7_table_X7_tells
theorem dX7_table_0 : decode cX7_table 0 = .ok (.aload_n 0, 1) := by decide +kernel
theorem dX7_table_1 : decode cX7_table 1 = .ok (.iconst 0, 1) := by decide +kernel
theorem dX7_table_2 : decode cX7_table 2 = .ok (.putfield 80, 3) := by decide +kernel
theorem dX7_table_5 : decode cX7_table 5 = .ok (.aload_n 0, 1) := by decide +kernel
theorem dX7_table_6 : decode cX7_table 6 = .ok (.iload_n 1, 1) := by decide +kernel
theorem dX7_table_7 : decode cX7_table 7 = .ok (.invokevirtual 120, 3) := by decide +kernel
theorem dX7_table_10 : decode cX7_table 10 = .ok (.ifCond .ne 5, 3) := by decide +kernel
theorem dX7_table_13 : decode cX7_table 13 = .ok (.iconst (-1), 1) := by decide +kernel
theorem dX7_table_14 : decode cX7_table 14 = .ok (.ireturn, 1) := by decide +kernel
theorem dX7_table_15 : decode cX7_table 15 = .ok (.aload_n 0, 1) := by decide +kernel
theorem dX7_table_16 : decode cX7_table 16 = .ok (.aload_n 0, 1) := by decide +kernel
theorem dX7_table_17 : decode cX7_table 17 = .ok (.getfield 13, 3) := by decide +kernel
theorem dX7_table_20 : decode cX7_table 20 = .ok (.iload_n 1, 1) := by decide +kernel
theorem dX7_table_21 : decode cX7_table 21 = .ok (.iaload, 1) := by decide +kernel
theorem dX7_table_22 : decode cX7_table 22 = .ok (.aload_n 0, 1) := by decide +kernel
theorem dX7_table_23 : decode cX7_table 23 = .ok (.getfield 17, 3) := by decide +kernel
theorem dX7_table_26 : decode cX7_table 26 = .ok (.iload_n 1, 1) := by decide +kernel
theorem dX7_table_27 : decode cX7_table 27 = .ok (.iaload, 1) := by decide +kernel
theorem dX7_table_28 : decode cX7_table 28 = .ok (.invokestatic 98, 3) := by decide +kernel
theorem dX7_table_31 : decode cX7_table 31 = .ok (.putfield 113, 3) := by decide +kernel
theorem dX7_table_34 : decode cX7_table 34 = .ok (.iconst 0, 1) := by decide +kernel
theorem dX7_table_35 : decode cX7_table 35 = .ok (.istore_n 2, 1) := by decide +kernel
theorem dX7_table_36 : decode cX7_table 36 = .ok (.iload_n 2, 1) := by decide +kernel
theorem dX7_table_37 : decode cX7_table 37 = .ok (.aload_n 0, 1) := by decide +kernel
theorem dX7_table_38 : decode cX7_table 38 = .ok (.getfield 113, 3) := by decide +kernel
theorem dX7_table_41 : decode cX7_table 41 = .ok (.if_icmp .ge 22, 3) := by decide +kernel
theorem dX7_table_44 : decode cX7_table 44 = .ok (.aload_n 0, 1) := by decide +kernel
theorem dX7_table_45 : decode cX7_table 45 = .ok (.getfield 23, 3) := by decide +kernel
theorem dX7_table_48 : decode cX7_table 48 = .ok (.iload_n 2, 1) := by decide +kernel
theorem dX7_table_49 : decode cX7_table 49 = .ok (.aload_n 0, 1) := by decide +kernel
theorem dX7_table_50 : decode cX7_table 50 = .ok (.iload_n 1, 1) := by decide +kernel
theorem dX7_table_51 : decode cX7_table 51 = .ok (.iload_n 2, 1) := by decide +kernel
theorem dX7_table_52 : decode cX7_table 52 = .ok (.invokevirtual 123, 3) := by decide +kernel
theorem dX7_table_55 : decode cX7_table 55 = .ok (.i2b, 1) := by decide +kernel
theorem dX7_table_56 : decode cX7_table 56 = .ok (.bastore, 1) := by decide +kernel
theorem dX7_table_57 : decode cX7_table 57 = .ok (.iinc 2 1, 3) := by decide +kernel
theorem dX7_table_60 : decode cX7_table 60 = .ok (.goto (-24), 3) := by decide +kernel
theorem dX7_table_63 : decode cX7_table 63 = .ok (.aload_n 0, 1) := by decide +kernel
theorem dX7_table_64 : decode cX7_table 64 = .ok (.getfield 113, 3) := by decide +kernel
theorem dX7_table_67 : decode cX7_table 67 = .ok (.ireturn, 1) := by decide +kernel
theorem dX7_areStates_0 : decode cX7_areStates 0 = .ok (.aload_n 0, 1) := by decide +kernel
theorem dX7_areStates_1 : decode cX7_areStates 1 = .ok (.getfield 91, 3) := by decide +kernel
theorem dX7_areStates_4 : decode cX7_areStates 4 = .ok (.iload_n 2, 1) := by decide +kernel
theorem dX7_areStates_5 : decode cX7_areStates 5 = .ok (.if_icmp .lt 11, 3) := by decide +kernel
theorem dX7_areStates_8 : decode cX7_areStates 8 = .ok (.aload_n 0, 1) := by decide +kernel
theorem dX7_areStates_9 : decode cX7_areStates 9 = .ok (.getfield 91, 3) := by decide +kernel
theorem dX7_areStates_12 : decode cX7_areStates 12 = .ok (.iload_n 3, 1) := by decide +kernel
theorem dX7_areStates_13 : decode cX7_areStates 13 = .ok (.if_icmp .le 5, 3) := by decide +kernel
theorem dX7_areStates_16 : decode cX7_areStates 16 = .ok (.iconst 0, 1) := by decide +kernel
theorem dX7_areStates_17 : decode cX7_areStates 17 = .ok (.ireturn, 1) := by decide +kernel
theorem dX7_areStates_18 : decode cX7_areStates 18 = .ok (.iconst 0, 1) := by decide +kernel
theorem dX7_areStates_19 : decode cX7_areStates 19 = .ok (.istore 4, 2) := by decide +kernel
theorem dX7_areStates_21 : decode cX7_areStates 21 = .ok (.iload 4, 2) := by decide +kernel
theorem dX7_areStates_23 : decode cX7_areStates 23 = .ok (.aload_n 0, 1) := by decide +kernel
theorem dX7_areStates_24 : decode cX7_areStates 24 = .ok (.getfield 91, 3) := by decide +kernel
theorem dX7_areStates_27 : decode cX7_areStates 27 = .ok (.if_icmp .ge 37, 3) := by decide +kernel
theorem dX7_areStates_30 : decode cX7_areStates 30 = .ok (.aload_n 0, 1) := by decide +kernel
theorem dX7_areStates_31 : decode cX7_areStates 31 = .ok (.getfield 7, 3) := by decide +kernel
theorem dX7_areStates_34 : decode cX7_areStates 34 = .ok (.iload 4, 2) := by decide +kernel
theorem dX7_areStates_36 : decode cX7_areStates 36 = .ok (.baload, 1) := by decide +kernel
theorem dX7_areStates_37 : decode cX7_areStates 37 = .ok (.ifCond .lt 19, 3) := by decide +kernel
theorem dX7_areStates_40 : decode cX7_areStates 40 = .ok (.aload_n 0, 1) := by decide +kernel
theorem dX7_areStates_41 : decode cX7_areStates 41 = .ok (.getfield 7, 3) := by decide +kernel
theorem dX7_areStates_44 : decode cX7_areStates 44 = .ok (.iload 4, 2) := by decide +kernel
theorem dX7_areStates_46 : decode cX7_areStates 46 = .ok (.baload, 1) := by decide +kernel
theorem dX7_areStates_47 : decode cX7_areStates 47 = .ok (.aload_n 0, 1) := by decide +kernel
theorem dX7_areStates_48 : decode cX7_areStates 48 = .ok (.getfield 13, 3) := by decide +kernel
theorem dX7_areStates_51 : decode cX7_areStates 51 = .ok (.iload_n 1, 1) := by decide +kernel
theorem dX7_areStates_52 : decode cX7_areStates 52 = .ok (.iaload, 1) := by decide +kernel
theorem dX7_areStates_53 : decode cX7_areStates 53 = .ok (.if_icmp .lt 5, 3) := by decide +kernel
theorem dX7_areStates_56 : decode cX7_areStates 56 = .ok (.iconst 0, 1) := by decide +kernel
theorem dX7_areStates_57 : decode cX7_areStates 57 = .ok (.ireturn, 1) := by decide +kernel
theorem dX7_areStates_58 : decode cX7_areStates 58 = .ok (.iinc 4 1, 3) := by decide +kernel
theorem dX7_areStates_61 : decode cX7_areStates 61 = .ok (.goto (-40), 3) := by decide +kernel
theorem dX7_areStates_64 : decode cX7_areStates 64 = .ok (.iconst 1, 1) := by decide +kernel
theorem dX7_areStates_65 : decode cX7_areStates 65 = .ok (.ireturn, 1) := by decide +kernel
set_option maxRecDepth 20000 in
theorem ggX7_leadsTo_X7_tells : GoodIn wsX7_leadsTo wsX7_tells := goodIn_r _ [8, 9, 10, 11, 12, 13, 14, 15, 16, 17, 18, 19, 20, 21, 22, 23, 24, 25, 26, 27, 28, 29, 30, 31, 32, 33, 34, 35, 36] (by decide +kernel) (by decide +kernel)
set_option maxRecDepth 20000 in
theorem gX7_leadsTo_X7_tells : GoodIn wsX7_leadsTo (wsV RX7 123 RX7 yX7_tells wsX7_tells) := goodIn_app (goodIn_of _ (by decide +kernel)) ggX7_leadsTo_X7_tells
theorem dX7_leadsTo_0 : decode cX7_leadsTo 0 = .ok (.iconst 0, 1) := by decide +kernel
theorem dX7_leadsTo_1 : decode cX7_leadsTo 1 = .ok (.istore 4, 2) := by decide +kernel
theorem dX7_leadsTo_3 : decode cX7_leadsTo 3 = .ok (.iconst 0, 1) := by decide +kernel
theorem dX7_leadsTo_4 : decode cX7_leadsTo 4 = .ok (.istore 5, 2) := by decide +kernel
theorem dX7_leadsTo_6 : decode cX7_leadsTo 6 = .ok (.iload 5, 2) := by decide +kernel
theorem dX7_leadsTo_8 : decode cX7_leadsTo 8 = .ok (.aload_n 0, 1) := by decide +kernel
theorem dX7_leadsTo_9 : decode cX7_leadsTo 9 = .ok (.getfield 17, 3) := by decide +kernel
theorem dX7_leadsTo_12 : decode cX7_leadsTo 12 = .ok (.iload_n 1, 1) := by decide +kernel
theorem dX7_leadsTo_13 : decode cX7_leadsTo 13 = .ok (.iaload, 1) := by decide +kernel
theorem dX7_leadsTo_14 : decode cX7_leadsTo 14 = .ok (.if_icmp .ge 32, 3) := by decide +kernel
theorem dX7_leadsTo_17 : decode cX7_leadsTo 17 = .ok (.aload_n 0, 1) := by decide +kernel
theorem dX7_leadsTo_18 : decode cX7_leadsTo 18 = .ok (.getfield 13, 3) := by decide +kernel
theorem dX7_leadsTo_21 : decode cX7_leadsTo 21 = .ok (.iload_n 1, 1) := by decide +kernel
theorem dX7_leadsTo_22 : decode cX7_leadsTo 22 = .ok (.iaload, 1) := by decide +kernel
theorem dX7_leadsTo_23 : decode cX7_leadsTo 23 = .ok (.iload 4, 2) := by decide +kernel
theorem dX7_leadsTo_25 : decode cX7_leadsTo 25 = .ok (.imul, 1) := by decide +kernel
theorem dX7_leadsTo_26 : decode cX7_leadsTo 26 = .ok (.aload_n 0, 1) := by decide +kernel
theorem dX7_leadsTo_27 : decode cX7_leadsTo 27 = .ok (.getfield 26, 3) := by decide +kernel
theorem dX7_leadsTo_30 : decode cX7_leadsTo 30 = .ok (.iload_n 2, 1) := by decide +kernel
theorem dX7_leadsTo_31 : decode cX7_leadsTo 31 = .ok (.iload 5, 2) := by decide +kernel
theorem dX7_leadsTo_33 : decode cX7_leadsTo 33 = .ok (.iadd, 1) := by decide +kernel
theorem dX7_leadsTo_34 : decode cX7_leadsTo 34 = .ok (.iload_n 3, 1) := by decide +kernel
theorem dX7_leadsTo_35 : decode cX7_leadsTo 35 = .ok (.irem, 1) := by decide +kernel
theorem dX7_leadsTo_36 : decode cX7_leadsTo 36 = .ok (.iaload, 1) := by decide +kernel
theorem dX7_leadsTo_37 : decode cX7_leadsTo 37 = .ok (.iadd, 1) := by decide +kernel
theorem dX7_leadsTo_38 : decode cX7_leadsTo 38 = .ok (.istore 4, 2) := by decide +kernel
theorem dX7_leadsTo_40 : decode cX7_leadsTo 40 = .ok (.iinc 5 1, 3) := by decide +kernel
theorem dX7_leadsTo_43 : decode cX7_leadsTo 43 = .ok (.goto (-37), 3) := by decide +kernel
theorem dX7_leadsTo_46 : decode cX7_leadsTo 46 = .ok (.aload_n 0, 1) := by decide +kernel
theorem dX7_leadsTo_47 : decode cX7_leadsTo 47 = .ok (.iload_n 1, 1) := by decide +kernel
theorem dX7_leadsTo_48 : decode cX7_leadsTo 48 = .ok (.iload 4, 2) := by decide +kernel
theorem dX7_leadsTo_50 : decode cX7_leadsTo 50 = .ok (.invokevirtual 123, 3) := by decide +kernel
theorem dX7_leadsTo_53 : decode cX7_leadsTo 53 = .ok (.ireturn, 1) := by decide +kernel
set_option maxRecDepth 20000 in
theorem ggX7_step_X7_leadsTo : GoodIn wsX7_step wsX7_leadsTo := goodIn_r _ [7, 8, 9, 2, 10, 11, 12, 6, 13, 14, 15, 16, 17, 18, 19, 20, 21, 22, 23, 24, 25, 26, 27, 28, 29, 30, 31, 32, 33, 34, 35, 36, 37, 38, 39, 40, 41] (by decide +kernel) (by decide +kernel)
set_option maxRecDepth 20000 in
theorem gX7_step_X7_leadsTo : GoodIn wsX7_step (wsV RX7 126 RX7 yX7_leadsTo wsX7_leadsTo) := goodIn_app (goodIn_of _ (by decide +kernel)) ggX7_step_X7_leadsTo
theorem dX7_step_0 : decode cX7_step 0 = .ok (.iconst 0, 1) := by decide +kernel
theorem dX7_step_1 : decode cX7_step 1 = .ok (.istore_n 3, 1) := by decide +kernel
theorem dX7_step_2 : decode cX7_step 2 = .ok (.iload_n 3, 1) := by decide +kernel
theorem dX7_step_3 : decode cX7_step 3 = .ok (.iload_n 2, 1) := by decide +kernel
theorem dX7_step_4 : decode cX7_step 4 = .ok (.if_icmp .ge 22, 3) := by decide +kernel
theorem dX7_step_7 : decode cX7_step 7 = .ok (.aload_n 0, 1) := by decide +kernel
theorem dX7_step_8 : decode cX7_step 8 = .ok (.getfield 29, 3) := by decide +kernel
theorem dX7_step_11 : decode cX7_step 11 = .ok (.iload_n 3, 1) := by decide +kernel
theorem dX7_step_12 : decode cX7_step 12 = .ok (.aload_n 0, 1) := by decide +kernel
theorem dX7_step_13 : decode cX7_step 13 = .ok (.iload_n 1, 1) := by decide +kernel
theorem dX7_step_14 : decode cX7_step 14 = .ok (.iload_n 3, 1) := by decide +kernel
theorem dX7_step_15 : decode cX7_step 15 = .ok (.iload_n 2, 1) := by decide +kernel
theorem dX7_step_16 : decode cX7_step 16 = .ok (.invokevirtual 126, 3) := by decide +kernel
theorem dX7_step_19 : decode cX7_step 19 = .ok (.iastore, 1) := by decide +kernel
theorem dX7_step_20 : decode cX7_step 20 = .ok (.iinc 3 1, 3) := by decide +kernel
theorem dX7_step_23 : decode cX7_step 23 = .ok (.goto (-21), 3) := by decide +kernel
theorem dX7_step_26 : decode cX7_step 26 = .ok (.iconst 0, 1) := by decide +kernel
theorem dX7_step_27 : decode cX7_step 27 = .ok (.istore_n 3, 1) := by decide +kernel
theorem dX7_step_28 : decode cX7_step 28 = .ok (.iload_n 3, 1) := by decide +kernel
theorem dX7_step_29 : decode cX7_step 29 = .ok (.iload_n 2, 1) := by decide +kernel
theorem dX7_step_30 : decode cX7_step 30 = .ok (.if_icmp .ge 21, 3) := by decide +kernel
theorem dX7_step_33 : decode cX7_step 33 = .ok (.aload_n 0, 1) := by decide +kernel
theorem dX7_step_34 : decode cX7_step 34 = .ok (.getfield 26, 3) := by decide +kernel
theorem dX7_step_37 : decode cX7_step 37 = .ok (.iload_n 3, 1) := by decide +kernel
theorem dX7_step_38 : decode cX7_step 38 = .ok (.aload_n 0, 1) := by decide +kernel
theorem dX7_step_39 : decode cX7_step 39 = .ok (.getfield 29, 3) := by decide +kernel
theorem dX7_step_42 : decode cX7_step 42 = .ok (.iload_n 3, 1) := by decide +kernel
theorem dX7_step_43 : decode cX7_step 43 = .ok (.iaload, 1) := by decide +kernel
theorem dX7_step_44 : decode cX7_step 44 = .ok (.iastore, 1) := by decide +kernel
theorem dX7_step_45 : decode cX7_step 45 = .ok (.iinc 3 1, 3) := by decide +kernel
theorem dX7_step_48 : decode cX7_step 48 = .ok (.goto (-20), 3) := by decide +kernel
theorem dX7_step_51 : decode cX7_step 51 = .ok (.return_, 1) := by decide +kernel
theorem dX7_takeCells_0 : decode cX7_takeCells 0 = .ok (.iconst 0, 1) := by decide +kernel
theorem dX7_takeCells_1 : decode cX7_takeCells 1 = .ok (.istore_n 1, 1) := by decide +kernel
theorem dX7_takeCells_2 : decode cX7_takeCells 2 = .ok (.iload_n 1, 1) := by decide +kernel
theorem dX7_takeCells_3 : decode cX7_takeCells 3 = .ok (.aload_n 0, 1) := by decide +kernel
theorem dX7_takeCells_4 : decode cX7_takeCells 4 = .ok (.getfield 91, 3) := by decide +kernel
theorem dX7_takeCells_7 : decode cX7_takeCells 7 = .ok (.if_icmp .ge 21, 3) := by decide +kernel
theorem dX7_takeCells_10 : decode cX7_takeCells 10 = .ok (.aload_n 0, 1) := by decide +kernel
theorem dX7_takeCells_11 : decode cX7_takeCells 11 = .ok (.getfield 26, 3) := by decide +kernel
theorem dX7_takeCells_14 : decode cX7_takeCells 14 = .ok (.iload_n 1, 1) := by decide +kernel
theorem dX7_takeCells_15 : decode cX7_takeCells 15 = .ok (.aload_n 0, 1) := by decide +kernel
theorem dX7_takeCells_16 : decode cX7_takeCells 16 = .ok (.getfield 7, 3) := by decide +kernel
theorem dX7_takeCells_19 : decode cX7_takeCells 19 = .ok (.iload_n 1, 1) := by decide +kernel
theorem dX7_takeCells_20 : decode cX7_takeCells 20 = .ok (.baload, 1) := by decide +kernel
theorem dX7_takeCells_21 : decode cX7_takeCells 21 = .ok (.iastore, 1) := by decide +kernel
theorem dX7_takeCells_22 : decode cX7_takeCells 22 = .ok (.iinc 1 1, 3) := by decide +kernel
theorem dX7_takeCells_25 : decode cX7_takeCells 25 = .ok (.goto (-23), 3) := by decide +kernel
theorem dX7_takeCells_28 : decode cX7_takeCells 28 = .ok (.return_, 1) := by decide +kernel
set_option maxRecDepth 20000 in
theorem ggX7_row_X7_taken : GoodIn wsX7_row wsX7_taken := goodIn_r _ [10, 11, 3, 39, 40, 41, 42, 43, 44, 45, 46, 47, 48, 49, 50, 51, 52, 53, 54, 55, 56, 57, 58, 59, 60, 61, 62, 63, 64, 65] (by decide +kernel) (by decide +kernel)
set_option maxRecDepth 20000 in
theorem gX7_row_X7_taken : GoodIn wsX7_row (wsV RX7 102 RX7 yX7_taken wsX7_taken) := goodIn_app (goodIn_of _ (by decide +kernel)) ggX7_row_X7_taken
set_option maxRecDepth 20000 in
theorem ggX7_row_X7_has : GoodIn wsX7_row wsX7_has := goodIn_r _ [15, 16, 17, 18, 9, 19, 39, 40, 41, 42, 43, 44, 45, 46, 47, 48, 49, 50, 51, 52, 53, 54, 55, 56, 57, 58, 59, 60, 61, 62, 63, 64, 65] (by decide +kernel) (by decide +kernel)
set_option maxRecDepth 20000 in
theorem gX7_row_X7_has : GoodIn wsX7_row (wsV RX7 120 RX7 yX7_has wsX7_has) := goodIn_app (goodIn_of _ (by decide +kernel)) ggX7_row_X7_has
set_option maxRecDepth 20000 in
theorem ggX7_row_X7_areStates : GoodIn wsX7_row wsX7_areStates := goodIn_r _ [23, 3, 24, 16, 39, 40, 41, 42, 43, 44, 45, 46, 47, 48, 49, 50, 51, 52, 53, 54, 55, 56, 57, 58, 59, 60, 61, 62, 63, 64, 65] (by decide +kernel) (by decide +kernel)
set_option maxRecDepth 20000 in
theorem gX7_row_X7_areStates : GoodIn wsX7_row (wsV RX7 130 RX7 yX7_areStates wsX7_areStates) := goodIn_app (goodIn_of _ (by decide +kernel)) ggX7_row_X7_areStates
set_option maxRecDepth 20000 in
theorem ggX7_row_X7_takeCells : GoodIn wsX7_row wsX7_takeCells := goodIn_r _ [28, 3, 29, 24, 39, 40, 41, 42, 43, 44, 45, 46, 47, 48, 49, 50, 51, 52, 53, 54, 55, 56, 57, 58, 59, 60, 61, 62, 63, 64, 65] (by decide +kernel) (by decide +kernel)
set_option maxRecDepth 20000 in
theorem gX7_row_X7_takeCells : GoodIn wsX7_row (wsV RX7 134 RX7 yX7_takeCells wsX7_takeCells) := goodIn_app (goodIn_of _ (by decide +kernel)) ggX7_row_X7_takeCells
set_option maxRecDepth 20000 in
theorem ggX7_row_X7_leadsTo : GoodIn wsX7_row wsX7_leadsTo := goodIn_r _ [33, 2, 16, 29, 34, 35, 36, 9, 37, 38, 39, 40, 41, 42, 43, 44, 45, 46, 47, 48, 49, 50, 51, 52, 53, 54, 55, 56, 57, 58, 59, 60, 61, 62, 63, 64, 65] (by decide +kernel) (by decide +kernel)
set_option maxRecDepth 20000 in
theorem gX7_row_X7_leadsTo : GoodIn wsX7_row (wsV RX7 126 RX7 yX7_leadsTo wsX7_leadsTo) := goodIn_app (goodIn_of _ (by decide +kernel)) ggX7_row_X7_leadsTo
theorem dX7_row_0 : decode cX7_row 0 = .ok (.aload_n 0, 1) := by decide +kernel
theorem dX7_row_1 : decode cX7_row 1 = .ok (.iconst 0, 1) := by decide +kernel
theorem dX7_row_2 : decode cX7_row 2 = .ok (.putfield 80, 3) := by decide +kernel
theorem dX7_row_5 : decode cX7_row 5 = .ok (.aload_n 0, 1) := by decide +kernel
theorem dX7_row_6 : decode cX7_row 6 = .ok (.invokevirtual 102, 3) := by decide +kernel
theorem dX7_row_9 : decode cX7_row 9 = .ok (.aload_n 0, 1) := by decide +kernel
theorem dX7_row_10 : decode cX7_row 10 = .ok (.iload_n 1, 1) := by decide +kernel
theorem dX7_row_11 : decode cX7_row 11 = .ok (.invokevirtual 120, 3) := by decide +kernel
theorem dX7_row_14 : decode cX7_row 14 = .ok (.ifCond .eq 19, 3) := by decide +kernel
theorem dX7_row_17 : decode cX7_row 17 = .ok (.aload_n 0, 1) := by decide +kernel
theorem dX7_row_18 : decode cX7_row 18 = .ok (.iload_n 1, 1) := by decide +kernel
theorem dX7_row_19 : decode cX7_row 19 = .ok (.aload_n 0, 1) := by decide +kernel
theorem dX7_row_20 : decode cX7_row 20 = .ok (.getfield 17, 3) := by decide +kernel
theorem dX7_row_23 : decode cX7_row 23 = .ok (.iload_n 1, 1) := by decide +kernel
theorem dX7_row_24 : decode cX7_row 24 = .ok (.iaload, 1) := by decide +kernel
theorem dX7_row_25 : decode cX7_row 25 = .ok (.bipush 100, 2) := by decide +kernel
theorem dX7_row_27 : decode cX7_row 27 = .ok (.invokevirtual 130, 3) := by decide +kernel
theorem dX7_row_30 : decode cX7_row 30 = .ok (.ifCond .ne 5, 3) := by decide +kernel
theorem dX7_row_33 : decode cX7_row 33 = .ok (.iconst (-1), 1) := by decide +kernel
theorem dX7_row_34 : decode cX7_row 34 = .ok (.ireturn, 1) := by decide +kernel
theorem dX7_row_35 : decode cX7_row 35 = .ok (.aload_n 0, 1) := by decide +kernel
theorem dX7_row_36 : decode cX7_row 36 = .ok (.invokevirtual 134, 3) := by decide +kernel
theorem dX7_row_39 : decode cX7_row 39 = .ok (.aload_n 0, 1) := by decide +kernel
theorem dX7_row_40 : decode cX7_row 40 = .ok (.aload_n 0, 1) := by decide +kernel
theorem dX7_row_41 : decode cX7_row 41 = .ok (.getfield 91, 3) := by decide +kernel
theorem dX7_row_44 : decode cX7_row 44 = .ok (.aload_n 0, 1) := by decide +kernel
theorem dX7_row_45 : decode cX7_row 45 = .ok (.getfield 17, 3) := by decide +kernel
theorem dX7_row_48 : decode cX7_row 48 = .ok (.iload_n 1, 1) := by decide +kernel
theorem dX7_row_49 : decode cX7_row 49 = .ok (.iaload, 1) := by decide +kernel
theorem dX7_row_50 : decode cX7_row 50 = .ok (.isub, 1) := by decide +kernel
theorem dX7_row_51 : decode cX7_row 51 = .ok (.iconst 1, 1) := by decide +kernel
theorem dX7_row_52 : decode cX7_row 52 = .ok (.iadd, 1) := by decide +kernel
theorem dX7_row_53 : decode cX7_row 53 = .ok (.putfield 113, 3) := by decide +kernel
theorem dX7_row_56 : decode cX7_row 56 = .ok (.iconst 0, 1) := by decide +kernel
theorem dX7_row_57 : decode cX7_row 57 = .ok (.istore_n 2, 1) := by decide +kernel
theorem dX7_row_58 : decode cX7_row 58 = .ok (.iload_n 2, 1) := by decide +kernel
theorem dX7_row_59 : decode cX7_row 59 = .ok (.aload_n 0, 1) := by decide +kernel
theorem dX7_row_60 : decode cX7_row 60 = .ok (.getfield 113, 3) := by decide +kernel
theorem dX7_row_63 : decode cX7_row 63 = .ok (.if_icmp .ge 26, 3) := by decide +kernel
theorem dX7_row_66 : decode cX7_row 66 = .ok (.aload_n 0, 1) := by decide +kernel
theorem dX7_row_67 : decode cX7_row 67 = .ok (.getfield 23, 3) := by decide +kernel
theorem dX7_row_70 : decode cX7_row 70 = .ok (.iload_n 2, 1) := by decide +kernel
theorem dX7_row_71 : decode cX7_row 71 = .ok (.aload_n 0, 1) := by decide +kernel
theorem dX7_row_72 : decode cX7_row 72 = .ok (.iload_n 1, 1) := by decide +kernel
theorem dX7_row_73 : decode cX7_row 73 = .ok (.iload_n 2, 1) := by decide +kernel
theorem dX7_row_74 : decode cX7_row 74 = .ok (.aload_n 0, 1) := by decide +kernel
theorem dX7_row_75 : decode cX7_row 75 = .ok (.getfield 91, 3) := by decide +kernel
theorem dX7_row_78 : decode cX7_row 78 = .ok (.invokevirtual 126, 3) := by decide +kernel
theorem dX7_row_81 : decode cX7_row 81 = .ok (.i2b, 1) := by decide +kernel
theorem dX7_row_82 : decode cX7_row 82 = .ok (.bastore, 1) := by decide +kernel
theorem dX7_row_83 : decode cX7_row 83 = .ok (.iinc 2 1, 3) := by decide +kernel
theorem dX7_row_86 : decode cX7_row 86 = .ok (.goto (-28), 3) := by decide +kernel
theorem dX7_row_89 : decode cX7_row 89 = .ok (.aload_n 0, 1) := by decide +kernel
theorem dX7_row_90 : decode cX7_row 90 = .ok (.getfield 113, 3) := by decide +kernel
theorem dX7_row_93 : decode cX7_row 93 = .ok (.ireturn, 1) := by decide +kernel
set_option maxRecDepth 20000 in
theorem ggX7_ring_X7_taken : GoodIn wsX7_ring wsX7_taken := goodIn_r _ [10, 11, 2, 44, 45, 46, 47, 48, 49, 50, 51, 52, 53, 54, 55, 56, 57, 58, 59, 60, 61, 62, 63, 64, 65, 66, 67, 68, 69, 70] (by decide +kernel) (by decide +kernel)
set_option maxRecDepth 20000 in
theorem gX7_ring_X7_taken : GoodIn wsX7_ring (wsV RX7 102 RX7 yX7_taken wsX7_taken) := goodIn_app (goodIn_of _ (by decide +kernel)) ggX7_ring_X7_taken
set_option maxRecDepth 20000 in
theorem ggX7_ring_X7_has : GoodIn wsX7_ring wsX7_has := goodIn_r _ [15, 16, 17, 18, 9, 19, 44, 45, 46, 47, 48, 49, 50, 51, 52, 53, 54, 55, 56, 57, 58, 59, 60, 61, 62, 63, 64, 65, 66, 67, 68, 69, 70] (by decide +kernel) (by decide +kernel)
set_option maxRecDepth 20000 in
theorem gX7_ring_X7_has : GoodIn wsX7_ring (wsV RX7 120 RX7 yX7_has wsX7_has) := goodIn_app (goodIn_of _ (by decide +kernel)) ggX7_ring_X7_has
set_option maxRecDepth 20000 in
theorem ggX7_ring_X7_areStates : GoodIn wsX7_ring wsX7_areStates := goodIn_r _ [23, 2, 24, 16, 44, 45, 46, 47, 48, 49, 50, 51, 52, 53, 54, 55, 56, 57, 58, 59, 60, 61, 62, 63, 64, 65, 66, 67, 68, 69, 70] (by decide +kernel) (by decide +kernel)
set_option maxRecDepth 20000 in
theorem gX7_ring_X7_areStates : GoodIn wsX7_ring (wsV RX7 130 RX7 yX7_areStates wsX7_areStates) := goodIn_app (goodIn_of _ (by decide +kernel)) ggX7_ring_X7_areStates
set_option maxRecDepth 20000 in
theorem ggX7_ring_X7_takeCells : GoodIn wsX7_ring wsX7_takeCells := goodIn_r _ [28, 2, 5, 24, 44, 45, 46, 47, 48, 49, 50, 51, 52, 53, 54, 55, 56, 57, 58, 59, 60, 61, 62, 63, 64, 65, 66, 67, 68, 69, 70] (by decide +kernel) (by decide +kernel)
set_option maxRecDepth 20000 in
theorem gX7_ring_X7_takeCells : GoodIn wsX7_ring (wsV RX7 134 RX7 yX7_takeCells wsX7_takeCells) := goodIn_app (goodIn_of _ (by decide +kernel)) ggX7_ring_X7_takeCells
set_option maxRecDepth 20000 in
theorem ggX7_ring_X7_step : GoodIn wsX7_ring wsX7_step := goodIn_r _ [32, 33, 5, 34, 35, 36, 9, 37, 38, 16, 39, 40, 41, 42, 43, 44, 45, 46, 47, 48, 49, 50, 51, 52, 53, 54, 55, 56, 57, 58, 59, 60, 61, 62, 63, 64, 65, 66, 67, 68, 69, 70] (by decide +kernel) (by decide +kernel)
set_option maxRecDepth 20000 in
theorem gX7_ring_X7_step : GoodIn wsX7_ring (wsV RX7 137 RX7 yX7_step wsX7_step) := goodIn_app (goodIn_of _ (by decide +kernel)) ggX7_ring_X7_step
theorem dX7_ring_0 : decode cX7_ring 0 = .ok (.aload_n 0, 1) := by decide +kernel
theorem dX7_ring_1 : decode cX7_ring 1 = .ok (.iconst 0, 1) := by decide +kernel
theorem dX7_ring_2 : decode cX7_ring 2 = .ok (.putfield 80, 3) := by decide +kernel
theorem dX7_ring_5 : decode cX7_ring 5 = .ok (.aload_n 0, 1) := by decide +kernel
theorem dX7_ring_6 : decode cX7_ring 6 = .ok (.invokevirtual 102, 3) := by decide +kernel
theorem dX7_ring_9 : decode cX7_ring 9 = .ok (.aload_n 0, 1) := by decide +kernel
theorem dX7_ring_10 : decode cX7_ring 10 = .ok (.iload_n 1, 1) := by decide +kernel
theorem dX7_ring_11 : decode cX7_ring 11 = .ok (.invokevirtual 120, 3) := by decide +kernel
theorem dX7_ring_14 : decode cX7_ring 14 = .ok (.ifCond .eq 25, 3) := by decide +kernel
theorem dX7_ring_17 : decode cX7_ring 17 = .ok (.iload_n 2, 1) := by decide +kernel
theorem dX7_ring_18 : decode cX7_ring 18 = .ok (.ifCond .lt 21, 3) := by decide +kernel
theorem dX7_ring_21 : decode cX7_ring 21 = .ok (.iload_n 2, 1) := by decide +kernel
theorem dX7_ring_22 : decode cX7_ring 22 = .ok (.sipush 1000, 3) := by decide +kernel
theorem dX7_ring_25 : decode cX7_ring 25 = .ok (.if_icmp .gt 14, 3) := by decide +kernel
theorem dX7_ring_28 : decode cX7_ring 28 = .ok (.aload_n 0, 1) := by decide +kernel
theorem dX7_ring_29 : decode cX7_ring 29 = .ok (.iload_n 1, 1) := by decide +kernel
theorem dX7_ring_30 : decode cX7_ring 30 = .ok (.iconst 1, 1) := by decide +kernel
theorem dX7_ring_31 : decode cX7_ring 31 = .ok (.bipush 100, 2) := by decide +kernel
theorem dX7_ring_33 : decode cX7_ring 33 = .ok (.invokevirtual 130, 3) := by decide +kernel
theorem dX7_ring_36 : decode cX7_ring 36 = .ok (.ifCond .ne 5, 3) := by decide +kernel
theorem dX7_ring_39 : decode cX7_ring 39 = .ok (.iconst (-1), 1) := by decide +kernel
theorem dX7_ring_40 : decode cX7_ring 40 = .ok (.ireturn, 1) := by decide +kernel
theorem dX7_ring_41 : decode cX7_ring 41 = .ok (.aload_n 0, 1) := by decide +kernel
theorem dX7_ring_42 : decode cX7_ring 42 = .ok (.invokevirtual 134, 3) := by decide +kernel
theorem dX7_ring_45 : decode cX7_ring 45 = .ok (.iconst 0, 1) := by decide +kernel
theorem dX7_ring_46 : decode cX7_ring 46 = .ok (.istore_n 3, 1) := by decide +kernel
theorem dX7_ring_47 : decode cX7_ring 47 = .ok (.iload_n 3, 1) := by decide +kernel
theorem dX7_ring_48 : decode cX7_ring 48 = .ok (.iload_n 2, 1) := by decide +kernel
theorem dX7_ring_49 : decode cX7_ring 49 = .ok (.if_icmp .ge 18, 3) := by decide +kernel
theorem dX7_ring_52 : decode cX7_ring 52 = .ok (.aload_n 0, 1) := by decide +kernel
theorem dX7_ring_53 : decode cX7_ring 53 = .ok (.iload_n 1, 1) := by decide +kernel
theorem dX7_ring_54 : decode cX7_ring 54 = .ok (.aload_n 0, 1) := by decide +kernel
theorem dX7_ring_55 : decode cX7_ring 55 = .ok (.getfield 91, 3) := by decide +kernel
theorem dX7_ring_58 : decode cX7_ring 58 = .ok (.invokevirtual 137, 3) := by decide +kernel
theorem dX7_ring_61 : decode cX7_ring 61 = .ok (.iinc 3 1, 3) := by decide +kernel
theorem dX7_ring_64 : decode cX7_ring 64 = .ok (.goto (-17), 3) := by decide +kernel
theorem dX7_ring_67 : decode cX7_ring 67 = .ok (.aload_n 0, 1) := by decide +kernel
theorem dX7_ring_68 : decode cX7_ring 68 = .ok (.aload_n 0, 1) := by decide +kernel
theorem dX7_ring_69 : decode cX7_ring 69 = .ok (.getfield 91, 3) := by decide +kernel
theorem dX7_ring_72 : decode cX7_ring 72 = .ok (.putfield 113, 3) := by decide +kernel
theorem dX7_ring_75 : decode cX7_ring 75 = .ok (.iconst 0, 1) := by decide +kernel
theorem dX7_ring_76 : decode cX7_ring 76 = .ok (.istore_n 3, 1) := by decide +kernel
theorem dX7_ring_77 : decode cX7_ring 77 = .ok (.iload_n 3, 1) := by decide +kernel
theorem dX7_ring_78 : decode cX7_ring 78 = .ok (.aload_n 0, 1) := by decide +kernel
theorem dX7_ring_79 : decode cX7_ring 79 = .ok (.getfield 91, 3) := by decide +kernel
theorem dX7_ring_82 : decode cX7_ring 82 = .ok (.if_icmp .ge 22, 3) := by decide +kernel
theorem dX7_ring_85 : decode cX7_ring 85 = .ok (.aload_n 0, 1) := by decide +kernel
theorem dX7_ring_86 : decode cX7_ring 86 = .ok (.getfield 23, 3) := by decide +kernel
theorem dX7_ring_89 : decode cX7_ring 89 = .ok (.iload_n 3, 1) := by decide +kernel
theorem dX7_ring_90 : decode cX7_ring 90 = .ok (.aload_n 0, 1) := by decide +kernel
theorem dX7_ring_91 : decode cX7_ring 91 = .ok (.getfield 26, 3) := by decide +kernel
theorem dX7_ring_94 : decode cX7_ring 94 = .ok (.iload_n 3, 1) := by decide +kernel
theorem dX7_ring_95 : decode cX7_ring 95 = .ok (.iaload, 1) := by decide +kernel
theorem dX7_ring_96 : decode cX7_ring 96 = .ok (.i2b, 1) := by decide +kernel
theorem dX7_ring_97 : decode cX7_ring 97 = .ok (.bastore, 1) := by decide +kernel
theorem dX7_ring_98 : decode cX7_ring 98 = .ok (.iinc 3 1, 3) := by decide +kernel
theorem dX7_ring_101 : decode cX7_ring 101 = .ok (.goto (-24), 3) := by decide +kernel
theorem dX7_ring_104 : decode cX7_ring 104 = .ok (.aload_n 0, 1) := by decide +kernel
theorem dX7_ring_105 : decode cX7_ring 105 = .ok (.getfield 91, 3) := by decide +kernel
theorem dX7_ring_108 : decode cX7_ring 108 = .ok (.ireturn, 1) := by decide +kernel
set_option maxRecDepth 20000 in
theorem ggX7_overlaps_X7_power : GoodIn wsX7_overlaps wsX7_power := goodIn_r _ [6] (by decide +kernel) (by decide +kernel)
set_option maxRecDepth 20000 in
theorem gX7_overlaps_X7_power : GoodIn wsX7_overlaps (va_wsS RX7 98 yX7_power wsX7_power) := goodIn_app (goodIn_of _ (by decide +kernel)) ggX7_overlaps_X7_power
theorem dX7_overlaps_0 : decode cX7_overlaps 0 = .ok (.aload_n 0, 1) := by decide +kernel
theorem dX7_overlaps_1 : decode cX7_overlaps 1 = .ok (.getfield 13, 3) := by decide +kernel
theorem dX7_overlaps_4 : decode cX7_overlaps 4 = .ok (.iload_n 1, 1) := by decide +kernel
theorem dX7_overlaps_5 : decode cX7_overlaps 5 = .ok (.iaload, 1) := by decide +kernel
theorem dX7_overlaps_6 : decode cX7_overlaps 6 = .ok (.aload_n 0, 1) := by decide +kernel
theorem dX7_overlaps_7 : decode cX7_overlaps 7 = .ok (.getfield 17, 3) := by decide +kernel
theorem dX7_overlaps_10 : decode cX7_overlaps 10 = .ok (.iload_n 1, 1) := by decide +kernel
theorem dX7_overlaps_11 : decode cX7_overlaps 11 = .ok (.iaload, 1) := by decide +kernel
theorem dX7_overlaps_12 : decode cX7_overlaps 12 = .ok (.iconst 1, 1) := by decide +kernel
theorem dX7_overlaps_13 : decode cX7_overlaps 13 = .ok (.isub, 1) := by decide +kernel
theorem dX7_overlaps_14 : decode cX7_overlaps 14 = .ok (.invokestatic 98, 3) := by decide +kernel
theorem dX7_overlaps_17 : decode cX7_overlaps 17 = .ok (.ireturn, 1) := by decide +kernel
set_option maxRecDepth 20000 in
theorem ggX7_then_X7_overlaps : GoodIn wsX7_then wsX7_overlaps := goodIn_r _ [6, 1, 7, 8, 9, 5, 10, 11, 12, 13, 14, 15, 16, 17, 18, 19, 20, 21, 22, 23, 24, 25, 26, 27, 28, 29, 30, 31, 32, 33, 34, 35, 36, 37] (by decide +kernel) (by decide +kernel)
set_option maxRecDepth 20000 in
theorem gX7_then_X7_overlaps : GoodIn wsX7_then (wsV RX7 141 RX7 yX7_overlaps wsX7_overlaps) := goodIn_app (goodIn_of _ (by decide +kernel)) ggX7_then_X7_overlaps
theorem dX7_then_0 : decode cX7_then 0 = .ok (.aload_n 0, 1) := by decide +kernel
theorem dX7_then_1 : decode cX7_then 1 = .ok (.getfield 13, 3) := by decide +kernel
theorem dX7_then_4 : decode cX7_then 4 = .ok (.iload_n 1, 1) := by decide +kernel
theorem dX7_then_5 : decode cX7_then 5 = .ok (.iaload, 1) := by decide +kernel
theorem dX7_then_6 : decode cX7_then 6 = .ok (.iload_n 2, 1) := by decide +kernel
theorem dX7_then_7 : decode cX7_then 7 = .ok (.imul, 1) := by decide +kernel
theorem dX7_then_8 : decode cX7_then 8 = .ok (.iload_n 3, 1) := by decide +kernel
theorem dX7_then_9 : decode cX7_then 9 = .ok (.iadd, 1) := by decide +kernel
theorem dX7_then_10 : decode cX7_then 10 = .ok (.aload_n 0, 1) := by decide +kernel
theorem dX7_then_11 : decode cX7_then 11 = .ok (.iload_n 1, 1) := by decide +kernel
theorem dX7_then_12 : decode cX7_then 12 = .ok (.invokevirtual 141, 3) := by decide +kernel
theorem dX7_then_15 : decode cX7_then 15 = .ok (.irem, 1) := by decide +kernel
theorem dX7_then_16 : decode cX7_then 16 = .ok (.ireturn, 1) := by decide +kernel
set_option maxRecDepth 20000 in
theorem ggX7_count_X7_overlaps : GoodIn wsX7_count wsX7_overlaps := goodIn_r _ [9, 3, 10, 11, 12, 8, 13, 23, 24, 25, 26, 27, 28, 29, 30, 31, 32, 33, 34, 35, 36, 37, 38, 39, 40, 41, 42, 43, 44, 45, 46, 47, 48, 49] (by decide +kernel) (by decide +kernel)
set_option maxRecDepth 20000 in
theorem gX7_count_X7_overlaps : GoodIn wsX7_count (wsV RX7 141 RX7 yX7_overlaps wsX7_overlaps) := goodIn_app (goodIn_of _ (by decide +kernel)) ggX7_count_X7_overlaps
set_option maxRecDepth 20000 in
theorem ggX7_count_X7_tells : GoodIn wsX7_count wsX7_tells := goodIn_r _ [17, 18, 23, 24, 25, 26, 27, 28, 29, 30, 31, 32, 33, 34, 35, 36, 37, 38, 39, 40, 41, 42, 43, 44, 45, 46, 47, 48, 49] (by decide +kernel) (by decide +kernel)
set_option maxRecDepth 20000 in
theorem gX7_count_X7_tells : GoodIn wsX7_count (wsV RX7 123 RX7 yX7_tells wsX7_tells) := goodIn_app (goodIn_of _ (by decide +kernel)) ggX7_count_X7_tells
set_option maxRecDepth 20000 in
theorem ggX7_count_X7_then : GoodIn wsX7_count wsX7_then := goodIn_r _ [22, 3, 5, 6, 7, 8, 9, 10, 11, 12, 13, 23, 24, 25, 26, 27, 28, 29, 30, 31, 32, 33, 34, 35, 36, 37, 38, 39, 40, 41, 42, 43, 44, 45, 46, 47, 48, 49] (by decide +kernel) (by decide +kernel)
set_option maxRecDepth 20000 in
theorem gX7_count_X7_then : GoodIn wsX7_count (wsV RX7 144 RX7 yX7_then wsX7_then) := goodIn_app (goodIn_of _ (by decide +kernel)) ggX7_count_X7_then
theorem dX7_count_0 : decode cX7_count 0 = .ok (.aload_n 0, 1) := by decide +kernel
theorem dX7_count_1 : decode cX7_count 1 = .ok (.iload_n 1, 1) := by decide +kernel
theorem dX7_count_2 : decode cX7_count 2 = .ok (.invokevirtual 141, 3) := by decide +kernel
theorem dX7_count_5 : decode cX7_count 5 = .ok (.istore_n 3, 1) := by decide +kernel
theorem dX7_count_6 : decode cX7_count 6 = .ok (.iconst 0, 1) := by decide +kernel
theorem dX7_count_7 : decode cX7_count 7 = .ok (.istore 4, 2) := by decide +kernel
theorem dX7_count_9 : decode cX7_count 9 = .ok (.iload 4, 2) := by decide +kernel
theorem dX7_count_11 : decode cX7_count 11 = .ok (.iload_n 3, 1) := by decide +kernel
theorem dX7_count_12 : decode cX7_count 12 = .ok (.if_icmp .ge 39, 3) := by decide +kernel
theorem dX7_count_15 : decode cX7_count 15 = .ok (.aload_n 0, 1) := by decide +kernel
theorem dX7_count_16 : decode cX7_count 16 = .ok (.getfield 32, 3) := by decide +kernel
theorem dX7_count_19 : decode cX7_count 19 = .ok (.bipush 9, 2) := by decide +kernel
theorem dX7_count_21 : decode cX7_count 21 = .ok (.aload_n 0, 1) := by decide +kernel
theorem dX7_count_22 : decode cX7_count 22 = .ok (.getfield 91, 3) := by decide +kernel
theorem dX7_count_25 : decode cX7_count 25 = .ok (.imul, 1) := by decide +kernel
theorem dX7_count_26 : decode cX7_count 26 = .ok (.iload 4, 2) := by decide +kernel
theorem dX7_count_28 : decode cX7_count 28 = .ok (.iadd, 1) := by decide +kernel
theorem dX7_count_29 : decode cX7_count 29 = .ok (.iload_n 2, 1) := by decide +kernel
theorem dX7_count_30 : decode cX7_count 30 = .ok (.ifCond .lt 9, 3) := by decide +kernel
theorem dX7_count_33 : decode cX7_count 33 = .ok (.iload 4, 2) := by decide +kernel
theorem dX7_count_35 : decode cX7_count 35 = .ok (.iload_n 2, 1) := by decide +kernel
theorem dX7_count_36 : decode cX7_count 36 = .ok (.if_icmp .ne 7, 3) := by decide +kernel
theorem dX7_count_39 : decode cX7_count 39 = .ok (.lconst 1, 1) := by decide +kernel
theorem dX7_count_40 : decode cX7_count 40 = .ok (.goto 4, 3) := by decide +kernel
theorem dX7_count_43 : decode cX7_count 43 = .ok (.lconst 0, 1) := by decide +kernel
theorem dX7_count_44 : decode cX7_count 44 = .ok (.lastore, 1) := by decide +kernel
theorem dX7_count_45 : decode cX7_count 45 = .ok (.iinc 4 1, 3) := by decide +kernel
theorem dX7_count_48 : decode cX7_count 48 = .ok (.goto (-39), 3) := by decide +kernel
theorem dX7_count_51 : decode cX7_count 51 = .ok (.aload_n 0, 1) := by decide +kernel
theorem dX7_count_52 : decode cX7_count 52 = .ok (.getfield 91, 3) := by decide +kernel
theorem dX7_count_55 : decode cX7_count 55 = .ok (.iconst 1, 1) := by decide +kernel
theorem dX7_count_56 : decode cX7_count 56 = .ok (.isub, 1) := by decide +kernel
theorem dX7_count_57 : decode cX7_count 57 = .ok (.istore 4, 2) := by decide +kernel
theorem dX7_count_59 : decode cX7_count 59 = .ok (.iload 4, 2) := by decide +kernel
theorem dX7_count_61 : decode cX7_count 61 = .ok (.ifCond .lt 116, 3) := by decide +kernel
theorem dX7_count_64 : decode cX7_count 64 = .ok (.iconst 0, 1) := by decide +kernel
theorem dX7_count_65 : decode cX7_count 65 = .ok (.istore 5, 2) := by decide +kernel
theorem dX7_count_67 : decode cX7_count 67 = .ok (.iload 5, 2) := by decide +kernel
theorem dX7_count_69 : decode cX7_count 69 = .ok (.iload_n 3, 1) := by decide +kernel
theorem dX7_count_70 : decode cX7_count 70 = .ok (.if_icmp .ge 101, 3) := by decide +kernel
theorem dX7_count_73 : decode cX7_count 73 = .ok (.lconst 0, 1) := by decide +kernel
theorem dX7_count_74 : decode cX7_count 74 = .ok (.lstore 6, 2) := by decide +kernel
theorem dX7_count_76 : decode cX7_count 76 = .ok (.iconst 0, 1) := by decide +kernel
theorem dX7_count_77 : decode cX7_count 77 = .ok (.istore 8, 2) := by decide +kernel
theorem dX7_count_79 : decode cX7_count 79 = .ok (.iload 8, 2) := by decide +kernel
theorem dX7_count_81 : decode cX7_count 81 = .ok (.aload_n 0, 1) := by decide +kernel
theorem dX7_count_82 : decode cX7_count 82 = .ok (.getfield 13, 3) := by decide +kernel
theorem dX7_count_85 : decode cX7_count 85 = .ok (.iload_n 1, 1) := by decide +kernel
theorem dX7_count_86 : decode cX7_count 86 = .ok (.iaload, 1) := by decide +kernel
theorem dX7_count_87 : decode cX7_count 87 = .ok (.if_icmp .ge 63, 3) := by decide +kernel
theorem dX7_count_90 : decode cX7_count 90 = .ok (.aload_n 0, 1) := by decide +kernel
theorem dX7_count_91 : decode cX7_count 91 = .ok (.iload_n 1, 1) := by decide +kernel
theorem dX7_count_92 : decode cX7_count 92 = .ok (.aload_n 0, 1) := by decide +kernel
theorem dX7_count_93 : decode cX7_count 93 = .ok (.getfield 13, 3) := by decide +kernel
theorem dX7_count_96 : decode cX7_count 96 = .ok (.iload_n 1, 1) := by decide +kernel
theorem dX7_count_97 : decode cX7_count 97 = .ok (.iaload, 1) := by decide +kernel
theorem dX7_count_98 : decode cX7_count 98 = .ok (.iload 5, 2) := by decide +kernel
theorem dX7_count_100 : decode cX7_count 100 = .ok (.imul, 1) := by decide +kernel
theorem dX7_count_101 : decode cX7_count 101 = .ok (.iload 8, 2) := by decide +kernel
theorem dX7_count_103 : decode cX7_count 103 = .ok (.iadd, 1) := by decide +kernel
theorem dX7_count_104 : decode cX7_count 104 = .ok (.invokevirtual 123, 3) := by decide +kernel
theorem dX7_count_107 : decode cX7_count 107 = .ok (.aload_n 0, 1) := by decide +kernel
theorem dX7_count_108 : decode cX7_count 108 = .ok (.getfield 7, 3) := by decide +kernel
theorem dX7_count_111 : decode cX7_count 111 = .ok (.iload 4, 2) := by decide +kernel
theorem dX7_count_113 : decode cX7_count 113 = .ok (.baload, 1) := by decide +kernel
theorem dX7_count_114 : decode cX7_count 114 = .ok (.if_icmp .ne 30, 3) := by decide +kernel
theorem dX7_count_117 : decode cX7_count 117 = .ok (.lload 6, 2) := by decide +kernel
theorem dX7_count_119 : decode cX7_count 119 = .ok (.aload_n 0, 1) := by decide +kernel
theorem dX7_count_120 : decode cX7_count 120 = .ok (.getfield 32, 3) := by decide +kernel
theorem dX7_count_123 : decode cX7_count 123 = .ok (.bipush 9, 2) := by decide +kernel
theorem dX7_count_125 : decode cX7_count 125 = .ok (.iload 4, 2) := by decide +kernel
theorem dX7_count_127 : decode cX7_count 127 = .ok (.iconst 1, 1) := by decide +kernel
theorem dX7_count_128 : decode cX7_count 128 = .ok (.iadd, 1) := by decide +kernel
theorem dX7_count_129 : decode cX7_count 129 = .ok (.imul, 1) := by decide +kernel
theorem dX7_count_130 : decode cX7_count 130 = .ok (.aload_n 0, 1) := by decide +kernel
theorem dX7_count_131 : decode cX7_count 131 = .ok (.iload_n 1, 1) := by decide +kernel
theorem dX7_count_132 : decode cX7_count 132 = .ok (.iload 5, 2) := by decide +kernel
theorem dX7_count_134 : decode cX7_count 134 = .ok (.iload 8, 2) := by decide +kernel
theorem dX7_count_136 : decode cX7_count 136 = .ok (.invokevirtual 144, 3) := by decide +kernel
theorem dX7_count_139 : decode cX7_count 139 = .ok (.iadd, 1) := by decide +kernel
theorem dX7_count_140 : decode cX7_count 140 = .ok (.laload, 1) := by decide +kernel
theorem dX7_count_141 : decode cX7_count 141 = .ok (.ladd, 1) := by decide +kernel
theorem dX7_count_142 : decode cX7_count 142 = .ok (.lstore 6, 2) := by decide +kernel
theorem dX7_count_144 : decode cX7_count 144 = .ok (.iinc 8 1, 3) := by decide +kernel
theorem dX7_count_147 : decode cX7_count 147 = .ok (.goto (-68), 3) := by decide +kernel
theorem dX7_count_150 : decode cX7_count 150 = .ok (.aload_n 0, 1) := by decide +kernel
theorem dX7_count_151 : decode cX7_count 151 = .ok (.getfield 32, 3) := by decide +kernel
theorem dX7_count_154 : decode cX7_count 154 = .ok (.bipush 9, 2) := by decide +kernel
theorem dX7_count_156 : decode cX7_count 156 = .ok (.iload 4, 2) := by decide +kernel
theorem dX7_count_158 : decode cX7_count 158 = .ok (.imul, 1) := by decide +kernel
theorem dX7_count_159 : decode cX7_count 159 = .ok (.iload 5, 2) := by decide +kernel
theorem dX7_count_161 : decode cX7_count 161 = .ok (.iadd, 1) := by decide +kernel
theorem dX7_count_162 : decode cX7_count 162 = .ok (.lload 6, 2) := by decide +kernel
theorem dX7_count_164 : decode cX7_count 164 = .ok (.lastore, 1) := by decide +kernel
theorem dX7_count_165 : decode cX7_count 165 = .ok (.iinc 5 1, 3) := by decide +kernel
theorem dX7_count_168 : decode cX7_count 168 = .ok (.goto (-101), 3) := by decide +kernel
theorem dX7_count_171 : decode cX7_count 171 = .ok (.iinc 4 (-1), 3) := by decide +kernel
theorem dX7_count_174 : decode cX7_count 174 = .ok (.goto (-115), 3) := by decide +kernel
theorem dX7_count_177 : decode cX7_count 177 = .ok (.return_, 1) := by decide +kernel
set_option maxRecDepth 20000 in
theorem ggX7_first_X7_tells : GoodIn wsX7_first wsX7_tells := goodIn_r _ [11, 12, 24, 25, 26, 27, 28, 29, 30, 31, 32, 33, 34, 35, 36, 37, 38, 39, 40, 41, 42, 43, 44, 45, 46, 47, 48, 49, 50] (by decide +kernel) (by decide +kernel)
set_option maxRecDepth 20000 in
theorem gX7_first_X7_tells : GoodIn wsX7_first (wsV RX7 123 RX7 yX7_tells wsX7_tells) := goodIn_app (goodIn_of _ (by decide +kernel)) ggX7_first_X7_tells
set_option maxRecDepth 20000 in
theorem ggX7_first_X7_then : GoodIn wsX7_first wsX7_then := goodIn_r _ [16, 3, 17, 18, 19, 10, 20, 1, 21, 22, 23, 24, 25, 26, 27, 28, 29, 30, 31, 32, 33, 34, 35, 36, 37, 38, 39, 40, 41, 42, 43, 44, 45, 46, 47, 48, 49, 50] (by decide +kernel) (by decide +kernel)
set_option maxRecDepth 20000 in
theorem gX7_first_X7_then : GoodIn wsX7_first (wsV RX7 144 RX7 yX7_then wsX7_then) := goodIn_app (goodIn_of _ (by decide +kernel)) ggX7_first_X7_then
theorem dX7_first_0 : decode cX7_first 0 = .ok (.aload_n 0, 1) := by decide +kernel
theorem dX7_first_1 : decode cX7_first 1 = .ok (.getfield 17, 3) := by decide +kernel
theorem dX7_first_4 : decode cX7_first 4 = .ok (.iload_n 1, 1) := by decide +kernel
theorem dX7_first_5 : decode cX7_first 5 = .ok (.iaload, 1) := by decide +kernel
theorem dX7_first_6 : decode cX7_first 6 = .ok (.istore_n 3, 1) := by decide +kernel
theorem dX7_first_7 : decode cX7_first 7 = .ok (.iload_n 2, 1) := by decide +kernel
theorem dX7_first_8 : decode cX7_first 8 = .ok (.istore 4, 2) := by decide +kernel
theorem dX7_first_10 : decode cX7_first 10 = .ok (.iload_n 3, 1) := by decide +kernel
theorem dX7_first_11 : decode cX7_first 11 = .ok (.iconst 2, 1) := by decide +kernel
theorem dX7_first_12 : decode cX7_first 12 = .ok (.isub, 1) := by decide +kernel
theorem dX7_first_13 : decode cX7_first 13 = .ok (.istore 5, 2) := by decide +kernel
theorem dX7_first_15 : decode cX7_first 15 = .ok (.iload 5, 2) := by decide +kernel
theorem dX7_first_17 : decode cX7_first 17 = .ok (.ifCond .lt 36, 3) := by decide +kernel
theorem dX7_first_20 : decode cX7_first 20 = .ok (.aload_n 0, 1) := by decide +kernel
theorem dX7_first_21 : decode cX7_first 21 = .ok (.getfield 26, 3) := by decide +kernel
theorem dX7_first_24 : decode cX7_first 24 = .ok (.iload 5, 2) := by decide +kernel
theorem dX7_first_26 : decode cX7_first 26 = .ok (.iload 4, 2) := by decide +kernel
theorem dX7_first_28 : decode cX7_first 28 = .ok (.aload_n 0, 1) := by decide +kernel
theorem dX7_first_29 : decode cX7_first 29 = .ok (.getfield 13, 3) := by decide +kernel
theorem dX7_first_32 : decode cX7_first 32 = .ok (.iload_n 1, 1) := by decide +kernel
theorem dX7_first_33 : decode cX7_first 33 = .ok (.iaload, 1) := by decide +kernel
theorem dX7_first_34 : decode cX7_first 34 = .ok (.irem, 1) := by decide +kernel
theorem dX7_first_35 : decode cX7_first 35 = .ok (.iastore, 1) := by decide +kernel
theorem dX7_first_36 : decode cX7_first 36 = .ok (.iload 4, 2) := by decide +kernel
theorem dX7_first_38 : decode cX7_first 38 = .ok (.aload_n 0, 1) := by decide +kernel
theorem dX7_first_39 : decode cX7_first 39 = .ok (.getfield 13, 3) := by decide +kernel
theorem dX7_first_42 : decode cX7_first 42 = .ok (.iload_n 1, 1) := by decide +kernel
theorem dX7_first_43 : decode cX7_first 43 = .ok (.iaload, 1) := by decide +kernel
theorem dX7_first_44 : decode cX7_first 44 = .ok (.idiv, 1) := by decide +kernel
theorem dX7_first_45 : decode cX7_first 45 = .ok (.istore 4, 2) := by decide +kernel
theorem dX7_first_47 : decode cX7_first 47 = .ok (.iinc 5 (-1), 3) := by decide +kernel
theorem dX7_first_50 : decode cX7_first 50 = .ok (.goto (-35), 3) := by decide +kernel
theorem dX7_first_53 : decode cX7_first 53 = .ok (.iload_n 2, 1) := by decide +kernel
theorem dX7_first_54 : decode cX7_first 54 = .ok (.istore 4, 2) := by decide +kernel
theorem dX7_first_56 : decode cX7_first 56 = .ok (.iconst 0, 1) := by decide +kernel
theorem dX7_first_57 : decode cX7_first 57 = .ok (.istore 5, 2) := by decide +kernel
theorem dX7_first_59 : decode cX7_first 59 = .ok (.iload 5, 2) := by decide +kernel
theorem dX7_first_61 : decode cX7_first 61 = .ok (.aload_n 0, 1) := by decide +kernel
theorem dX7_first_62 : decode cX7_first 62 = .ok (.getfield 91, 3) := by decide +kernel
theorem dX7_first_65 : decode cX7_first 65 = .ok (.if_icmp .ge 96, 3) := by decide +kernel
theorem dX7_first_68 : decode cX7_first 68 = .ok (.iconst 0, 1) := by decide +kernel
theorem dX7_first_69 : decode cX7_first 69 = .ok (.istore 6, 2) := by decide +kernel
theorem dX7_first_71 : decode cX7_first 71 = .ok (.aload_n 0, 1) := by decide +kernel
theorem dX7_first_72 : decode cX7_first 72 = .ok (.iload_n 1, 1) := by decide +kernel
theorem dX7_first_73 : decode cX7_first 73 = .ok (.aload_n 0, 1) := by decide +kernel
theorem dX7_first_74 : decode cX7_first 74 = .ok (.getfield 13, 3) := by decide +kernel
theorem dX7_first_77 : decode cX7_first 77 = .ok (.iload_n 1, 1) := by decide +kernel
theorem dX7_first_78 : decode cX7_first 78 = .ok (.iaload, 1) := by decide +kernel
theorem dX7_first_79 : decode cX7_first 79 = .ok (.iload 4, 2) := by decide +kernel
theorem dX7_first_81 : decode cX7_first 81 = .ok (.imul, 1) := by decide +kernel
theorem dX7_first_82 : decode cX7_first 82 = .ok (.iload 6, 2) := by decide +kernel
theorem dX7_first_84 : decode cX7_first 84 = .ok (.iadd, 1) := by decide +kernel
theorem dX7_first_85 : decode cX7_first 85 = .ok (.invokevirtual 123, 3) := by decide +kernel
theorem dX7_first_88 : decode cX7_first 88 = .ok (.aload_n 0, 1) := by decide +kernel
theorem dX7_first_89 : decode cX7_first 89 = .ok (.getfield 7, 3) := by decide +kernel
theorem dX7_first_92 : decode cX7_first 92 = .ok (.iload 5, 2) := by decide +kernel
theorem dX7_first_94 : decode cX7_first 94 = .ok (.baload, 1) := by decide +kernel
theorem dX7_first_95 : decode cX7_first 95 = .ok (.if_icmp .ne 30, 3) := by decide +kernel
theorem dX7_first_98 : decode cX7_first 98 = .ok (.aload_n 0, 1) := by decide +kernel
theorem dX7_first_99 : decode cX7_first 99 = .ok (.getfield 32, 3) := by decide +kernel
theorem dX7_first_102 : decode cX7_first 102 = .ok (.bipush 9, 2) := by decide +kernel
theorem dX7_first_104 : decode cX7_first 104 = .ok (.iload 5, 2) := by decide +kernel
theorem dX7_first_106 : decode cX7_first 106 = .ok (.iconst 1, 1) := by decide +kernel
theorem dX7_first_107 : decode cX7_first 107 = .ok (.iadd, 1) := by decide +kernel
theorem dX7_first_108 : decode cX7_first 108 = .ok (.imul, 1) := by decide +kernel
theorem dX7_first_109 : decode cX7_first 109 = .ok (.aload_n 0, 1) := by decide +kernel
theorem dX7_first_110 : decode cX7_first 110 = .ok (.iload_n 1, 1) := by decide +kernel
theorem dX7_first_111 : decode cX7_first 111 = .ok (.iload 4, 2) := by decide +kernel
theorem dX7_first_113 : decode cX7_first 113 = .ok (.iload 6, 2) := by decide +kernel
theorem dX7_first_115 : decode cX7_first 115 = .ok (.invokevirtual 144, 3) := by decide +kernel
theorem dX7_first_118 : decode cX7_first 118 = .ok (.iadd, 1) := by decide +kernel
theorem dX7_first_119 : decode cX7_first 119 = .ok (.laload, 1) := by decide +kernel
theorem dX7_first_120 : decode cX7_first 120 = .ok (.lconst 0, 1) := by decide +kernel
theorem dX7_first_121 : decode cX7_first 121 = .ok (.lcmp, 1) := by decide +kernel
theorem dX7_first_122 : decode cX7_first 122 = .ok (.ifCond .ne 9, 3) := by decide +kernel
theorem dX7_first_125 : decode cX7_first 125 = .ok (.iinc 6 1, 3) := by decide +kernel
theorem dX7_first_128 : decode cX7_first 128 = .ok (.goto (-57), 3) := by decide +kernel
theorem dX7_first_131 : decode cX7_first 131 = .ok (.aload_n 0, 1) := by decide +kernel
theorem dX7_first_132 : decode cX7_first 132 = .ok (.getfield 26, 3) := by decide +kernel
theorem dX7_first_135 : decode cX7_first 135 = .ok (.iload_n 3, 1) := by decide +kernel
theorem dX7_first_136 : decode cX7_first 136 = .ok (.iconst 1, 1) := by decide +kernel
theorem dX7_first_137 : decode cX7_first 137 = .ok (.isub, 1) := by decide +kernel
theorem dX7_first_138 : decode cX7_first 138 = .ok (.iload 5, 2) := by decide +kernel
theorem dX7_first_140 : decode cX7_first 140 = .ok (.iadd, 1) := by decide +kernel
theorem dX7_first_141 : decode cX7_first 141 = .ok (.iload 6, 2) := by decide +kernel
theorem dX7_first_143 : decode cX7_first 143 = .ok (.iastore, 1) := by decide +kernel
theorem dX7_first_144 : decode cX7_first 144 = .ok (.aload_n 0, 1) := by decide +kernel
theorem dX7_first_145 : decode cX7_first 145 = .ok (.iload_n 1, 1) := by decide +kernel
theorem dX7_first_146 : decode cX7_first 146 = .ok (.iload 4, 2) := by decide +kernel
theorem dX7_first_148 : decode cX7_first 148 = .ok (.iload 6, 2) := by decide +kernel
theorem dX7_first_150 : decode cX7_first 150 = .ok (.invokevirtual 144, 3) := by decide +kernel
theorem dX7_first_153 : decode cX7_first 153 = .ok (.istore 4, 2) := by decide +kernel
theorem dX7_first_155 : decode cX7_first 155 = .ok (.iinc 5 1, 3) := by decide +kernel
theorem dX7_first_158 : decode cX7_first 158 = .ok (.goto (-99), 3) := by decide +kernel
theorem dX7_first_161 : decode cX7_first 161 = .ok (.return_, 1) := by decide +kernel
set_option maxRecDepth 20000 in
theorem ggX7_behind_X7_taken : GoodIn wsX7_behind wsX7_taken := goodIn_r _ [13, 14, 4, 52, 53, 54, 55, 56, 57, 58, 59, 60, 61, 62, 63, 64, 65, 66, 67, 68, 69, 70, 71, 72, 73, 74, 75, 76, 77, 78] (by decide +kernel) (by decide +kernel)
set_option maxRecDepth 20000 in
theorem gX7_behind_X7_taken : GoodIn wsX7_behind (wsV RX7 102 RX7 yX7_taken wsX7_taken) := goodIn_app (goodIn_of _ (by decide +kernel)) ggX7_behind_X7_taken
set_option maxRecDepth 20000 in
theorem ggX7_behind_X7_has : GoodIn wsX7_behind wsX7_has := goodIn_r _ [18, 19, 20, 21, 12, 22, 52, 53, 54, 55, 56, 57, 58, 59, 60, 61, 62, 63, 64, 65, 66, 67, 68, 69, 70, 71, 72, 73, 74, 75, 76, 77, 78] (by decide +kernel) (by decide +kernel)
set_option maxRecDepth 20000 in
theorem gX7_behind_X7_has : GoodIn wsX7_behind (wsV RX7 120 RX7 yX7_has wsX7_has) := goodIn_app (goodIn_of _ (by decide +kernel)) ggX7_behind_X7_has
set_option maxRecDepth 20000 in
theorem ggX7_behind_X7_areStates : GoodIn wsX7_behind wsX7_areStates := goodIn_r _ [26, 4, 27, 19, 52, 53, 54, 55, 56, 57, 58, 59, 60, 61, 62, 63, 64, 65, 66, 67, 68, 69, 70, 71, 72, 73, 74, 75, 76, 77, 78] (by decide +kernel) (by decide +kernel)
set_option maxRecDepth 20000 in
theorem gX7_behind_X7_areStates : GoodIn wsX7_behind (wsV RX7 130 RX7 yX7_areStates wsX7_areStates) := goodIn_app (goodIn_of _ (by decide +kernel)) ggX7_behind_X7_areStates
set_option maxRecDepth 20000 in
theorem ggX7_behind_X7_count : GoodIn wsX7_behind wsX7_count := goodIn_r _ [31, 3, 4, 19, 27, 32, 33, 34, 12, 35, 5, 36, 37, 38, 39, 40, 41, 42, 43, 44, 45, 46, 47, 52, 53, 54, 55, 56, 57, 58, 59, 60, 61, 62, 63, 64, 65, 66, 67, 68, 69, 70, 71, 72, 73, 74, 75, 76, 77, 78] (by decide +kernel) (by decide +kernel)
set_option maxRecDepth 20000 in
theorem gX7_behind_X7_count : GoodIn wsX7_behind (wsV RX7 149 RX7 yX7_count wsX7_count) := goodIn_app (goodIn_of _ (by decide +kernel)) ggX7_behind_X7_count
set_option maxRecDepth 20000 in
theorem ggX7_behind_X7_overlaps : GoodIn wsX7_behind wsX7_overlaps := goodIn_r _ [35, 19, 5, 36, 37, 12, 38, 52, 53, 54, 55, 56, 57, 58, 59, 60, 61, 62, 63, 64, 65, 66, 67, 68, 69, 70, 71, 72, 73, 74, 75, 76, 77, 78] (by decide +kernel) (by decide +kernel)
set_option maxRecDepth 20000 in
theorem gX7_behind_X7_overlaps : GoodIn wsX7_behind (wsV RX7 141 RX7 yX7_overlaps wsX7_overlaps) := goodIn_app (goodIn_of _ (by decide +kernel)) ggX7_behind_X7_overlaps
set_option maxRecDepth 20000 in
theorem ggX7_behind_X7_first : GoodIn wsX7_behind wsX7_first := goodIn_r _ [51, 5, 8, 19, 4, 27, 3, 39, 40, 41, 12, 42, 43, 44, 45, 46, 47, 32, 33, 34, 35, 36, 37, 38, 52, 53, 54, 55, 56, 57, 58, 59, 60, 61, 62, 63, 64, 65, 66, 67, 68, 69, 70, 71, 72, 73, 74, 75, 76, 77, 78] (by decide +kernel) (by decide +kernel)
set_option maxRecDepth 20000 in
theorem gX7_behind_X7_first : GoodIn wsX7_behind (wsV RX7 152 RX7 yX7_first wsX7_first) := goodIn_app (goodIn_of _ (by decide +kernel)) ggX7_behind_X7_first
theorem dX7_behind_0 : decode cX7_behind 0 = .ok (.aload_n 0, 1) := by decide +kernel
theorem dX7_behind_1 : decode cX7_behind 1 = .ok (.iconst 0, 1) := by decide +kernel
theorem dX7_behind_2 : decode cX7_behind 2 = .ok (.putfield 80, 3) := by decide +kernel
theorem dX7_behind_5 : decode cX7_behind 5 = .ok (.aload_n 0, 1) := by decide +kernel
theorem dX7_behind_6 : decode cX7_behind 6 = .ok (.invokevirtual 102, 3) := by decide +kernel
theorem dX7_behind_9 : decode cX7_behind 9 = .ok (.aload_n 0, 1) := by decide +kernel
theorem dX7_behind_10 : decode cX7_behind 10 = .ok (.iload_n 1, 1) := by decide +kernel
theorem dX7_behind_11 : decode cX7_behind 11 = .ok (.invokevirtual 120, 3) := by decide +kernel
theorem dX7_behind_14 : decode cX7_behind 14 = .ok (.ifCond .eq 14, 3) := by decide +kernel
theorem dX7_behind_17 : decode cX7_behind 17 = .ok (.aload_n 0, 1) := by decide +kernel
theorem dX7_behind_18 : decode cX7_behind 18 = .ok (.iload_n 1, 1) := by decide +kernel
theorem dX7_behind_19 : decode cX7_behind 19 = .ok (.iconst 1, 1) := by decide +kernel
theorem dX7_behind_20 : decode cX7_behind 20 = .ok (.bipush 20, 2) := by decide +kernel
theorem dX7_behind_22 : decode cX7_behind 22 = .ok (.invokevirtual 130, 3) := by decide +kernel
theorem dX7_behind_25 : decode cX7_behind 25 = .ok (.ifCond .ne 7, 3) := by decide +kernel
theorem dX7_behind_28 : decode cX7_behind 28 = .ok (.ldc2_w 147, 3) := by decide +kernel
theorem dX7_behind_31 : decode cX7_behind 31 = .ok (.lreturn, 1) := by decide +kernel
theorem dX7_behind_32 : decode cX7_behind 32 = .ok (.aload_n 0, 1) := by decide +kernel
theorem dX7_behind_33 : decode cX7_behind 33 = .ok (.iload_n 1, 1) := by decide +kernel
theorem dX7_behind_34 : decode cX7_behind 34 = .ok (.iconst (-1), 1) := by decide +kernel
theorem dX7_behind_35 : decode cX7_behind 35 = .ok (.invokevirtual 149, 3) := by decide +kernel
theorem dX7_behind_38 : decode cX7_behind 38 = .ok (.lconst 0, 1) := by decide +kernel
theorem dX7_behind_39 : decode cX7_behind 39 = .ok (.lstore_n 2, 1) := by decide +kernel
theorem dX7_behind_40 : decode cX7_behind 40 = .ok (.iconst (-1), 1) := by decide +kernel
theorem dX7_behind_41 : decode cX7_behind 41 = .ok (.istore 4, 2) := by decide +kernel
theorem dX7_behind_43 : decode cX7_behind 43 = .ok (.iconst 0, 1) := by decide +kernel
theorem dX7_behind_44 : decode cX7_behind 44 = .ok (.istore 5, 2) := by decide +kernel
theorem dX7_behind_46 : decode cX7_behind 46 = .ok (.iload 5, 2) := by decide +kernel
theorem dX7_behind_48 : decode cX7_behind 48 = .ok (.aload_n 0, 1) := by decide +kernel
theorem dX7_behind_49 : decode cX7_behind 49 = .ok (.iload_n 1, 1) := by decide +kernel
theorem dX7_behind_50 : decode cX7_behind 50 = .ok (.invokevirtual 141, 3) := by decide +kernel
theorem dX7_behind_53 : decode cX7_behind 53 = .ok (.if_icmp .ge 40, 3) := by decide +kernel
theorem dX7_behind_56 : decode cX7_behind 56 = .ok (.lload_n 2, 1) := by decide +kernel
theorem dX7_behind_57 : decode cX7_behind 57 = .ok (.aload_n 0, 1) := by decide +kernel
theorem dX7_behind_58 : decode cX7_behind 58 = .ok (.getfield 32, 3) := by decide +kernel
theorem dX7_behind_61 : decode cX7_behind 61 = .ok (.iload 5, 2) := by decide +kernel
theorem dX7_behind_63 : decode cX7_behind 63 = .ok (.laload, 1) := by decide +kernel
theorem dX7_behind_64 : decode cX7_behind 64 = .ok (.ladd, 1) := by decide +kernel
theorem dX7_behind_65 : decode cX7_behind 65 = .ok (.lstore_n 2, 1) := by decide +kernel
theorem dX7_behind_66 : decode cX7_behind 66 = .ok (.iload 4, 2) := by decide +kernel
theorem dX7_behind_68 : decode cX7_behind 68 = .ok (.ifCond .ge 19, 3) := by decide +kernel
theorem dX7_behind_71 : decode cX7_behind 71 = .ok (.aload_n 0, 1) := by decide +kernel
theorem dX7_behind_72 : decode cX7_behind 72 = .ok (.getfield 32, 3) := by decide +kernel
theorem dX7_behind_75 : decode cX7_behind 75 = .ok (.iload 5, 2) := by decide +kernel
theorem dX7_behind_77 : decode cX7_behind 77 = .ok (.laload, 1) := by decide +kernel
theorem dX7_behind_78 : decode cX7_behind 78 = .ok (.lconst 0, 1) := by decide +kernel
theorem dX7_behind_79 : decode cX7_behind 79 = .ok (.lcmp, 1) := by decide +kernel
theorem dX7_behind_80 : decode cX7_behind 80 = .ok (.ifCond .le 7, 3) := by decide +kernel
theorem dX7_behind_83 : decode cX7_behind 83 = .ok (.iload 5, 2) := by decide +kernel
theorem dX7_behind_85 : decode cX7_behind 85 = .ok (.istore 4, 2) := by decide +kernel
theorem dX7_behind_87 : decode cX7_behind 87 = .ok (.iinc 5 1, 3) := by decide +kernel
theorem dX7_behind_90 : decode cX7_behind 90 = .ok (.goto (-44), 3) := by decide +kernel
theorem dX7_behind_93 : decode cX7_behind 93 = .ok (.lload_n 2, 1) := by decide +kernel
theorem dX7_behind_94 : decode cX7_behind 94 = .ok (.lconst 0, 1) := by decide +kernel
theorem dX7_behind_95 : decode cX7_behind 95 = .ok (.lcmp, 1) := by decide +kernel
theorem dX7_behind_96 : decode cX7_behind 96 = .ok (.ifCond .ne 5, 3) := by decide +kernel
theorem dX7_behind_99 : decode cX7_behind 99 = .ok (.lconst 0, 1) := by decide +kernel
theorem dX7_behind_100 : decode cX7_behind 100 = .ok (.lreturn, 1) := by decide +kernel
theorem dX7_behind_101 : decode cX7_behind 101 = .ok (.aload_n 0, 1) := by decide +kernel
theorem dX7_behind_102 : decode cX7_behind 102 = .ok (.iload_n 1, 1) := by decide +kernel
theorem dX7_behind_103 : decode cX7_behind 103 = .ok (.iload 4, 2) := by decide +kernel
theorem dX7_behind_105 : decode cX7_behind 105 = .ok (.invokevirtual 152, 3) := by decide +kernel
theorem dX7_behind_108 : decode cX7_behind 108 = .ok (.aload_n 0, 1) := by decide +kernel
theorem dX7_behind_109 : decode cX7_behind 109 = .ok (.aload_n 0, 1) := by decide +kernel
theorem dX7_behind_110 : decode cX7_behind 110 = .ok (.getfield 91, 3) := by decide +kernel
theorem dX7_behind_113 : decode cX7_behind 113 = .ok (.aload_n 0, 1) := by decide +kernel
theorem dX7_behind_114 : decode cX7_behind 114 = .ok (.getfield 17, 3) := by decide +kernel
theorem dX7_behind_117 : decode cX7_behind 117 = .ok (.iload_n 1, 1) := by decide +kernel
theorem dX7_behind_118 : decode cX7_behind 118 = .ok (.iaload, 1) := by decide +kernel
theorem dX7_behind_119 : decode cX7_behind 119 = .ok (.iadd, 1) := by decide +kernel
theorem dX7_behind_120 : decode cX7_behind 120 = .ok (.iconst 1, 1) := by decide +kernel
theorem dX7_behind_121 : decode cX7_behind 121 = .ok (.isub, 1) := by decide +kernel
theorem dX7_behind_122 : decode cX7_behind 122 = .ok (.putfield 113, 3) := by decide +kernel
theorem dX7_behind_125 : decode cX7_behind 125 = .ok (.iconst 0, 1) := by decide +kernel
theorem dX7_behind_126 : decode cX7_behind 126 = .ok (.istore 5, 2) := by decide +kernel
theorem dX7_behind_128 : decode cX7_behind 128 = .ok (.iload 5, 2) := by decide +kernel
theorem dX7_behind_130 : decode cX7_behind 130 = .ok (.aload_n 0, 1) := by decide +kernel
theorem dX7_behind_131 : decode cX7_behind 131 = .ok (.getfield 113, 3) := by decide +kernel
theorem dX7_behind_134 : decode cX7_behind 134 = .ok (.if_icmp .ge 24, 3) := by decide +kernel
theorem dX7_behind_137 : decode cX7_behind 137 = .ok (.aload_n 0, 1) := by decide +kernel
theorem dX7_behind_138 : decode cX7_behind 138 = .ok (.getfield 23, 3) := by decide +kernel
theorem dX7_behind_141 : decode cX7_behind 141 = .ok (.iload 5, 2) := by decide +kernel
theorem dX7_behind_143 : decode cX7_behind 143 = .ok (.aload_n 0, 1) := by decide +kernel
theorem dX7_behind_144 : decode cX7_behind 144 = .ok (.getfield 26, 3) := by decide +kernel
theorem dX7_behind_147 : decode cX7_behind 147 = .ok (.iload 5, 2) := by decide +kernel
theorem dX7_behind_149 : decode cX7_behind 149 = .ok (.iaload, 1) := by decide +kernel
theorem dX7_behind_150 : decode cX7_behind 150 = .ok (.i2b, 1) := by decide +kernel
theorem dX7_behind_151 : decode cX7_behind 151 = .ok (.bastore, 1) := by decide +kernel
theorem dX7_behind_152 : decode cX7_behind 152 = .ok (.iinc 5 1, 3) := by decide +kernel
theorem dX7_behind_155 : decode cX7_behind 155 = .ok (.goto (-27), 3) := by decide +kernel
theorem dX7_behind_158 : decode cX7_behind 158 = .ok (.lload_n 2, 1) := by decide +kernel
theorem dX7_behind_159 : decode cX7_behind 159 = .ok (.lreturn, 1) := by decide +kernel
set_option maxRecDepth 20000 in
theorem ggX7_ringsBehind_X7_taken : GoodIn wsX7_ringsBehind wsX7_taken := goodIn_r _ [12, 13, 4, 52, 53, 54, 55, 56, 57, 58, 59, 60, 61, 62, 63, 64, 65, 66, 67, 68, 69, 70, 71, 72, 73, 74, 75, 76, 77, 78] (by decide +kernel) (by decide +kernel)
set_option maxRecDepth 20000 in
theorem gX7_ringsBehind_X7_taken : GoodIn wsX7_ringsBehind (wsV RX7 102 RX7 yX7_taken wsX7_taken) := goodIn_app (goodIn_of _ (by decide +kernel)) ggX7_ringsBehind_X7_taken
set_option maxRecDepth 20000 in
theorem ggX7_ringsBehind_X7_has : GoodIn wsX7_ringsBehind wsX7_has := goodIn_r _ [17, 18, 19, 20, 11, 21, 52, 53, 54, 55, 56, 57, 58, 59, 60, 61, 62, 63, 64, 65, 66, 67, 68, 69, 70, 71, 72, 73, 74, 75, 76, 77, 78] (by decide +kernel) (by decide +kernel)
set_option maxRecDepth 20000 in
theorem gX7_ringsBehind_X7_has : GoodIn wsX7_ringsBehind (wsV RX7 120 RX7 yX7_has wsX7_has) := goodIn_app (goodIn_of _ (by decide +kernel)) ggX7_ringsBehind_X7_has
set_option maxRecDepth 20000 in
theorem ggX7_ringsBehind_X7_areStates : GoodIn wsX7_ringsBehind wsX7_areStates := goodIn_r _ [25, 4, 26, 18, 52, 53, 54, 55, 56, 57, 58, 59, 60, 61, 62, 63, 64, 65, 66, 67, 68, 69, 70, 71, 72, 73, 74, 75, 76, 77, 78] (by decide +kernel) (by decide +kernel)
set_option maxRecDepth 20000 in
theorem gX7_ringsBehind_X7_areStates : GoodIn wsX7_ringsBehind (wsV RX7 130 RX7 yX7_areStates wsX7_areStates) := goodIn_app (goodIn_of _ (by decide +kernel)) ggX7_ringsBehind_X7_areStates
set_option maxRecDepth 20000 in
theorem ggX7_ringsBehind_X7_overlaps : GoodIn wsX7_ringsBehind wsX7_overlaps := goodIn_r _ [30, 18, 31, 32, 33, 11, 34, 52, 53, 54, 55, 56, 57, 58, 59, 60, 61, 62, 63, 64, 65, 66, 67, 68, 69, 70, 71, 72, 73, 74, 75, 76, 77, 78] (by decide +kernel) (by decide +kernel)
set_option maxRecDepth 20000 in
theorem gX7_ringsBehind_X7_overlaps : GoodIn wsX7_ringsBehind (wsV RX7 141 RX7 yX7_overlaps wsX7_overlaps) := goodIn_app (goodIn_of _ (by decide +kernel)) ggX7_ringsBehind_X7_overlaps
set_option maxRecDepth 20000 in
theorem ggX7_ringsBehind_X7_count : GoodIn wsX7_ringsBehind wsX7_count := goodIn_r _ [38, 3, 4, 18, 26, 27, 28, 29, 11, 30, 31, 32, 33, 34, 39, 40, 41, 42, 43, 44, 45, 46, 47, 52, 53, 54, 55, 56, 57, 58, 59, 60, 61, 62, 63, 64, 65, 66, 67, 68, 69, 70, 71, 72, 73, 74, 75, 76, 77, 78] (by decide +kernel) (by decide +kernel)
set_option maxRecDepth 20000 in
theorem gX7_ringsBehind_X7_count : GoodIn wsX7_ringsBehind (wsV RX7 149 RX7 yX7_count wsX7_count) := goodIn_app (goodIn_of _ (by decide +kernel)) ggX7_ringsBehind_X7_count
set_option maxRecDepth 20000 in
theorem ggX7_ringsBehind_X7_first : GoodIn wsX7_ringsBehind wsX7_first := goodIn_r _ [51, 31, 7, 18, 4, 26, 3, 39, 40, 41, 11, 42, 43, 44, 45, 46, 47, 27, 28, 29, 30, 32, 33, 34, 52, 53, 54, 55, 56, 57, 58, 59, 60, 61, 62, 63, 64, 65, 66, 67, 68, 69, 70, 71, 72, 73, 74, 75, 76, 77, 78] (by decide +kernel) (by decide +kernel)
set_option maxRecDepth 20000 in
theorem gX7_ringsBehind_X7_first : GoodIn wsX7_ringsBehind (wsV RX7 152 RX7 yX7_first wsX7_first) := goodIn_app (goodIn_of _ (by decide +kernel)) ggX7_ringsBehind_X7_first
theorem dX7_ringsBehind_0 : decode cX7_ringsBehind 0 = .ok (.aload_n 0, 1) := by decide +kernel
theorem dX7_ringsBehind_1 : decode cX7_ringsBehind 1 = .ok (.iconst 0, 1) := by decide +kernel
theorem dX7_ringsBehind_2 : decode cX7_ringsBehind 2 = .ok (.putfield 80, 3) := by decide +kernel
theorem dX7_ringsBehind_5 : decode cX7_ringsBehind 5 = .ok (.aload_n 0, 1) := by decide +kernel
theorem dX7_ringsBehind_6 : decode cX7_ringsBehind 6 = .ok (.invokevirtual 102, 3) := by decide +kernel
theorem dX7_ringsBehind_9 : decode cX7_ringsBehind 9 = .ok (.aload_n 0, 1) := by decide +kernel
theorem dX7_ringsBehind_10 : decode cX7_ringsBehind 10 = .ok (.iload_n 1, 1) := by decide +kernel
theorem dX7_ringsBehind_11 : decode cX7_ringsBehind 11 = .ok (.invokevirtual 120, 3) := by decide +kernel
theorem dX7_ringsBehind_14 : decode cX7_ringsBehind 14 = .ok (.ifCond .eq 14, 3) := by decide +kernel
theorem dX7_ringsBehind_17 : decode cX7_ringsBehind 17 = .ok (.aload_n 0, 1) := by decide +kernel
theorem dX7_ringsBehind_18 : decode cX7_ringsBehind 18 = .ok (.iload_n 1, 1) := by decide +kernel
theorem dX7_ringsBehind_19 : decode cX7_ringsBehind 19 = .ok (.iconst 1, 1) := by decide +kernel
theorem dX7_ringsBehind_20 : decode cX7_ringsBehind 20 = .ok (.bipush 20, 2) := by decide +kernel
theorem dX7_ringsBehind_22 : decode cX7_ringsBehind 22 = .ok (.invokevirtual 130, 3) := by decide +kernel
theorem dX7_ringsBehind_25 : decode cX7_ringsBehind 25 = .ok (.ifCond .ne 7, 3) := by decide +kernel
theorem dX7_ringsBehind_28 : decode cX7_ringsBehind 28 = .ok (.ldc2_w 147, 3) := by decide +kernel
theorem dX7_ringsBehind_31 : decode cX7_ringsBehind 31 = .ok (.lreturn, 1) := by decide +kernel
theorem dX7_ringsBehind_32 : decode cX7_ringsBehind 32 = .ok (.lconst 0, 1) := by decide +kernel
theorem dX7_ringsBehind_33 : decode cX7_ringsBehind 33 = .ok (.lstore_n 2, 1) := by decide +kernel
theorem dX7_ringsBehind_34 : decode cX7_ringsBehind 34 = .ok (.iconst 0, 1) := by decide +kernel
theorem dX7_ringsBehind_35 : decode cX7_ringsBehind 35 = .ok (.istore 4, 2) := by decide +kernel
theorem dX7_ringsBehind_37 : decode cX7_ringsBehind 37 = .ok (.iload 4, 2) := by decide +kernel
theorem dX7_ringsBehind_39 : decode cX7_ringsBehind 39 = .ok (.aload_n 0, 1) := by decide +kernel
theorem dX7_ringsBehind_40 : decode cX7_ringsBehind 40 = .ok (.iload_n 1, 1) := by decide +kernel
theorem dX7_ringsBehind_41 : decode cX7_ringsBehind 41 = .ok (.invokevirtual 141, 3) := by decide +kernel
theorem dX7_ringsBehind_44 : decode cX7_ringsBehind 44 = .ok (.if_icmp .ge 95, 3) := by decide +kernel
theorem dX7_ringsBehind_47 : decode cX7_ringsBehind 47 = .ok (.aload_n 0, 1) := by decide +kernel
theorem dX7_ringsBehind_48 : decode cX7_ringsBehind 48 = .ok (.iload_n 1, 1) := by decide +kernel
theorem dX7_ringsBehind_49 : decode cX7_ringsBehind 49 = .ok (.iload 4, 2) := by decide +kernel
theorem dX7_ringsBehind_51 : decode cX7_ringsBehind 51 = .ok (.invokevirtual 149, 3) := by decide +kernel
theorem dX7_ringsBehind_54 : decode cX7_ringsBehind 54 = .ok (.aload_n 0, 1) := by decide +kernel
theorem dX7_ringsBehind_55 : decode cX7_ringsBehind 55 = .ok (.getfield 32, 3) := by decide +kernel
theorem dX7_ringsBehind_58 : decode cX7_ringsBehind 58 = .ok (.iload 4, 2) := by decide +kernel
theorem dX7_ringsBehind_60 : decode cX7_ringsBehind 60 = .ok (.laload, 1) := by decide +kernel
theorem dX7_ringsBehind_61 : decode cX7_ringsBehind 61 = .ok (.lconst 0, 1) := by decide +kernel
theorem dX7_ringsBehind_62 : decode cX7_ringsBehind 62 = .ok (.lcmp, 1) := by decide +kernel
theorem dX7_ringsBehind_63 : decode cX7_ringsBehind 63 = .ok (.ifCond .ne 6, 3) := by decide +kernel
theorem dX7_ringsBehind_66 : decode cX7_ringsBehind 66 = .ok (.goto 67, 3) := by decide +kernel
theorem dX7_ringsBehind_69 : decode cX7_ringsBehind 69 = .ok (.lload_n 2, 1) := by decide +kernel
theorem dX7_ringsBehind_70 : decode cX7_ringsBehind 70 = .ok (.lconst 0, 1) := by decide +kernel
theorem dX7_ringsBehind_71 : decode cX7_ringsBehind 71 = .ok (.lcmp, 1) := by decide +kernel
theorem dX7_ringsBehind_72 : decode cX7_ringsBehind 72 = .ok (.ifCond .ne 51, 3) := by decide +kernel
theorem dX7_ringsBehind_75 : decode cX7_ringsBehind 75 = .ok (.aload_n 0, 1) := by decide +kernel
theorem dX7_ringsBehind_76 : decode cX7_ringsBehind 76 = .ok (.iload_n 1, 1) := by decide +kernel
theorem dX7_ringsBehind_77 : decode cX7_ringsBehind 77 = .ok (.iload 4, 2) := by decide +kernel
theorem dX7_ringsBehind_79 : decode cX7_ringsBehind 79 = .ok (.invokevirtual 152, 3) := by decide +kernel
theorem dX7_ringsBehind_82 : decode cX7_ringsBehind 82 = .ok (.aload_n 0, 1) := by decide +kernel
theorem dX7_ringsBehind_83 : decode cX7_ringsBehind 83 = .ok (.aload_n 0, 1) := by decide +kernel
theorem dX7_ringsBehind_84 : decode cX7_ringsBehind 84 = .ok (.getfield 91, 3) := by decide +kernel
theorem dX7_ringsBehind_87 : decode cX7_ringsBehind 87 = .ok (.putfield 113, 3) := by decide +kernel
theorem dX7_ringsBehind_90 : decode cX7_ringsBehind 90 = .ok (.iconst 0, 1) := by decide +kernel
theorem dX7_ringsBehind_91 : decode cX7_ringsBehind 91 = .ok (.istore 5, 2) := by decide +kernel
theorem dX7_ringsBehind_93 : decode cX7_ringsBehind 93 = .ok (.iload 5, 2) := by decide +kernel
theorem dX7_ringsBehind_95 : decode cX7_ringsBehind 95 = .ok (.aload_n 0, 1) := by decide +kernel
theorem dX7_ringsBehind_96 : decode cX7_ringsBehind 96 = .ok (.getfield 91, 3) := by decide +kernel
theorem dX7_ringsBehind_99 : decode cX7_ringsBehind 99 = .ok (.if_icmp .ge 24, 3) := by decide +kernel
theorem dX7_ringsBehind_102 : decode cX7_ringsBehind 102 = .ok (.aload_n 0, 1) := by decide +kernel
theorem dX7_ringsBehind_103 : decode cX7_ringsBehind 103 = .ok (.getfield 23, 3) := by decide +kernel
theorem dX7_ringsBehind_106 : decode cX7_ringsBehind 106 = .ok (.iload 5, 2) := by decide +kernel
theorem dX7_ringsBehind_108 : decode cX7_ringsBehind 108 = .ok (.aload_n 0, 1) := by decide +kernel
theorem dX7_ringsBehind_109 : decode cX7_ringsBehind 109 = .ok (.getfield 26, 3) := by decide +kernel
theorem dX7_ringsBehind_112 : decode cX7_ringsBehind 112 = .ok (.iload 5, 2) := by decide +kernel
theorem dX7_ringsBehind_114 : decode cX7_ringsBehind 114 = .ok (.iaload, 1) := by decide +kernel
theorem dX7_ringsBehind_115 : decode cX7_ringsBehind 115 = .ok (.i2b, 1) := by decide +kernel
theorem dX7_ringsBehind_116 : decode cX7_ringsBehind 116 = .ok (.bastore, 1) := by decide +kernel
theorem dX7_ringsBehind_117 : decode cX7_ringsBehind 117 = .ok (.iinc 5 1, 3) := by decide +kernel
theorem dX7_ringsBehind_120 : decode cX7_ringsBehind 120 = .ok (.goto (-27), 3) := by decide +kernel
theorem dX7_ringsBehind_123 : decode cX7_ringsBehind 123 = .ok (.lload_n 2, 1) := by decide +kernel
theorem dX7_ringsBehind_124 : decode cX7_ringsBehind 124 = .ok (.aload_n 0, 1) := by decide +kernel
theorem dX7_ringsBehind_125 : decode cX7_ringsBehind 125 = .ok (.getfield 32, 3) := by decide +kernel
theorem dX7_ringsBehind_128 : decode cX7_ringsBehind 128 = .ok (.iload 4, 2) := by decide +kernel
theorem dX7_ringsBehind_130 : decode cX7_ringsBehind 130 = .ok (.laload, 1) := by decide +kernel
theorem dX7_ringsBehind_131 : decode cX7_ringsBehind 131 = .ok (.ladd, 1) := by decide +kernel
theorem dX7_ringsBehind_132 : decode cX7_ringsBehind 132 = .ok (.lstore_n 2, 1) := by decide +kernel
theorem dX7_ringsBehind_133 : decode cX7_ringsBehind 133 = .ok (.iinc 4 1, 3) := by decide +kernel
theorem dX7_ringsBehind_136 : decode cX7_ringsBehind 136 = .ok (.goto (-99), 3) := by decide +kernel
theorem dX7_ringsBehind_139 : decode cX7_ringsBehind 139 = .ok (.lload_n 2, 1) := by decide +kernel
theorem dX7_ringsBehind_140 : decode cX7_ringsBehind 140 = .ok (.lreturn, 1) := by decide +kernel
set_option maxRecDepth 20000 in
theorem ggX7_leads_X7_overlaps : GoodIn wsX7_leads wsX7_overlaps := goodIn_r _ [6, 1, 7, 8, 9, 5, 10, 20, 21, 22, 23, 24, 25, 26, 27, 28, 29, 30, 31, 32, 33, 34, 35, 36, 37, 38, 39, 40, 41, 42, 43, 44, 45, 46] (by decide +kernel) (by decide +kernel)
set_option maxRecDepth 20000 in
theorem gX7_leads_X7_overlaps : GoodIn wsX7_leads (wsV RX7 141 RX7 yX7_overlaps wsX7_overlaps) := goodIn_app (goodIn_of _ (by decide +kernel)) ggX7_leads_X7_overlaps
set_option maxRecDepth 20000 in
theorem ggX7_leads_X7_tells : GoodIn wsX7_leads wsX7_tells := goodIn_r _ [14, 15, 20, 21, 22, 23, 24, 25, 26, 27, 28, 29, 30, 31, 32, 33, 34, 35, 36, 37, 38, 39, 40, 41, 42, 43, 44, 45, 46] (by decide +kernel) (by decide +kernel)
set_option maxRecDepth 20000 in
theorem gX7_leads_X7_tells : GoodIn wsX7_leads (wsV RX7 123 RX7 yX7_tells wsX7_tells) := goodIn_app (goodIn_of _ (by decide +kernel)) ggX7_leads_X7_tells
set_option maxRecDepth 20000 in
theorem ggX7_leads_X7_then : GoodIn wsX7_leads wsX7_then := goodIn_r _ [19, 1, 2, 3, 4, 5, 6, 7, 8, 9, 10, 20, 21, 22, 23, 24, 25, 26, 27, 28, 29, 30, 31, 32, 33, 34, 35, 36, 37, 38, 39, 40, 41, 42, 43, 44, 45, 46] (by decide +kernel) (by decide +kernel)
set_option maxRecDepth 20000 in
theorem gX7_leads_X7_then : GoodIn wsX7_leads (wsV RX7 144 RX7 yX7_then wsX7_then) := goodIn_app (goodIn_of _ (by decide +kernel)) ggX7_leads_X7_then
theorem dX7_leads_0 : decode cX7_leads 0 = .ok (.aload_n 0, 1) := by decide +kernel
theorem dX7_leads_1 : decode cX7_leads 1 = .ok (.iload_n 1, 1) := by decide +kernel
theorem dX7_leads_2 : decode cX7_leads 2 = .ok (.invokevirtual 141, 3) := by decide +kernel
theorem dX7_leads_5 : decode cX7_leads 5 = .ok (.istore 4, 2) := by decide +kernel
theorem dX7_leads_7 : decode cX7_leads 7 = .ok (.iconst 0, 1) := by decide +kernel
theorem dX7_leads_8 : decode cX7_leads 8 = .ok (.istore 5, 2) := by decide +kernel
theorem dX7_leads_10 : decode cX7_leads 10 = .ok (.iload 5, 2) := by decide +kernel
theorem dX7_leads_12 : decode cX7_leads 12 = .ok (.aload_n 0, 1) := by decide +kernel
theorem dX7_leads_13 : decode cX7_leads 13 = .ok (.getfield 13, 3) := by decide +kernel
theorem dX7_leads_16 : decode cX7_leads 16 = .ok (.iload_n 1, 1) := by decide +kernel
theorem dX7_leads_17 : decode cX7_leads 17 = .ok (.iaload, 1) := by decide +kernel
theorem dX7_leads_18 : decode cX7_leads 18 = .ok (.if_icmp .ge 102, 3) := by decide +kernel
theorem dX7_leads_21 : decode cX7_leads 21 = .ok (.iconst 0, 1) := by decide +kernel
theorem dX7_leads_22 : decode cX7_leads 22 = .ok (.istore 6, 2) := by decide +kernel
theorem dX7_leads_24 : decode cX7_leads 24 = .ok (.iload 6, 2) := by decide +kernel
theorem dX7_leads_26 : decode cX7_leads 26 = .ok (.aload_n 0, 1) := by decide +kernel
theorem dX7_leads_27 : decode cX7_leads 27 = .ok (.getfield 13, 3) := by decide +kernel
theorem dX7_leads_30 : decode cX7_leads 30 = .ok (.iload_n 1, 1) := by decide +kernel
theorem dX7_leads_31 : decode cX7_leads 31 = .ok (.iaload, 1) := by decide +kernel
theorem dX7_leads_32 : decode cX7_leads 32 = .ok (.if_icmp .ge 82, 3) := by decide +kernel
theorem dX7_leads_35 : decode cX7_leads 35 = .ok (.aload_n 0, 1) := by decide +kernel
theorem dX7_leads_36 : decode cX7_leads 36 = .ok (.iload_n 1, 1) := by decide +kernel
theorem dX7_leads_37 : decode cX7_leads 37 = .ok (.aload_n 0, 1) := by decide +kernel
theorem dX7_leads_38 : decode cX7_leads 38 = .ok (.getfield 13, 3) := by decide +kernel
theorem dX7_leads_41 : decode cX7_leads 41 = .ok (.iload_n 1, 1) := by decide +kernel
theorem dX7_leads_42 : decode cX7_leads 42 = .ok (.iaload, 1) := by decide +kernel
theorem dX7_leads_43 : decode cX7_leads 43 = .ok (.iload_n 2, 1) := by decide +kernel
theorem dX7_leads_44 : decode cX7_leads 44 = .ok (.iload 4, 2) := by decide +kernel
theorem dX7_leads_46 : decode cX7_leads 46 = .ok (.idiv, 1) := by decide +kernel
theorem dX7_leads_47 : decode cX7_leads 47 = .ok (.imul, 1) := by decide +kernel
theorem dX7_leads_48 : decode cX7_leads 48 = .ok (.iload 5, 2) := by decide +kernel
theorem dX7_leads_50 : decode cX7_leads 50 = .ok (.iadd, 1) := by decide +kernel
theorem dX7_leads_51 : decode cX7_leads 51 = .ok (.invokevirtual 123, 3) := by decide +kernel
theorem dX7_leads_54 : decode cX7_leads 54 = .ok (.aload_n 0, 1) := by decide +kernel
theorem dX7_leads_55 : decode cX7_leads 55 = .ok (.iload_n 1, 1) := by decide +kernel
theorem dX7_leads_56 : decode cX7_leads 56 = .ok (.aload_n 0, 1) := by decide +kernel
theorem dX7_leads_57 : decode cX7_leads 57 = .ok (.getfield 13, 3) := by decide +kernel
theorem dX7_leads_60 : decode cX7_leads 60 = .ok (.iload_n 1, 1) := by decide +kernel
theorem dX7_leads_61 : decode cX7_leads 61 = .ok (.iaload, 1) := by decide +kernel
theorem dX7_leads_62 : decode cX7_leads 62 = .ok (.iload_n 2, 1) := by decide +kernel
theorem dX7_leads_63 : decode cX7_leads 63 = .ok (.iload 4, 2) := by decide +kernel
theorem dX7_leads_65 : decode cX7_leads 65 = .ok (.irem, 1) := by decide +kernel
theorem dX7_leads_66 : decode cX7_leads 66 = .ok (.imul, 1) := by decide +kernel
theorem dX7_leads_67 : decode cX7_leads 67 = .ok (.iload 6, 2) := by decide +kernel
theorem dX7_leads_69 : decode cX7_leads 69 = .ok (.iadd, 1) := by decide +kernel
theorem dX7_leads_70 : decode cX7_leads 70 = .ok (.invokevirtual 123, 3) := by decide +kernel
theorem dX7_leads_73 : decode cX7_leads 73 = .ok (.if_icmp .ne 35, 3) := by decide +kernel
theorem dX7_leads_76 : decode cX7_leads 76 = .ok (.aload_n 0, 1) := by decide +kernel
theorem dX7_leads_77 : decode cX7_leads 77 = .ok (.iload_n 1, 1) := by decide +kernel
theorem dX7_leads_78 : decode cX7_leads 78 = .ok (.iload_n 2, 1) := by decide +kernel
theorem dX7_leads_79 : decode cX7_leads 79 = .ok (.iload 4, 2) := by decide +kernel
theorem dX7_leads_81 : decode cX7_leads 81 = .ok (.idiv, 1) := by decide +kernel
theorem dX7_leads_82 : decode cX7_leads 82 = .ok (.iload 5, 2) := by decide +kernel
theorem dX7_leads_84 : decode cX7_leads 84 = .ok (.invokevirtual 144, 3) := by decide +kernel
theorem dX7_leads_87 : decode cX7_leads 87 = .ok (.iload 4, 2) := by decide +kernel
theorem dX7_leads_89 : decode cX7_leads 89 = .ok (.imul, 1) := by decide +kernel
theorem dX7_leads_90 : decode cX7_leads 90 = .ok (.aload_n 0, 1) := by decide +kernel
theorem dX7_leads_91 : decode cX7_leads 91 = .ok (.iload_n 1, 1) := by decide +kernel
theorem dX7_leads_92 : decode cX7_leads 92 = .ok (.iload_n 2, 1) := by decide +kernel
theorem dX7_leads_93 : decode cX7_leads 93 = .ok (.iload 4, 2) := by decide +kernel
theorem dX7_leads_95 : decode cX7_leads 95 = .ok (.irem, 1) := by decide +kernel
theorem dX7_leads_96 : decode cX7_leads 96 = .ok (.iload 6, 2) := by decide +kernel
theorem dX7_leads_98 : decode cX7_leads 98 = .ok (.invokevirtual 144, 3) := by decide +kernel
theorem dX7_leads_101 : decode cX7_leads 101 = .ok (.iadd, 1) := by decide +kernel
theorem dX7_leads_102 : decode cX7_leads 102 = .ok (.iload_n 3, 1) := by decide +kernel
theorem dX7_leads_103 : decode cX7_leads 103 = .ok (.if_icmp .ne 5, 3) := by decide +kernel
theorem dX7_leads_106 : decode cX7_leads 106 = .ok (.iconst 1, 1) := by decide +kernel
theorem dX7_leads_107 : decode cX7_leads 107 = .ok (.ireturn, 1) := by decide +kernel
theorem dX7_leads_108 : decode cX7_leads 108 = .ok (.iinc 6 1, 3) := by decide +kernel
theorem dX7_leads_111 : decode cX7_leads 111 = .ok (.goto (-87), 3) := by decide +kernel
theorem dX7_leads_114 : decode cX7_leads 114 = .ok (.iinc 5 1, 3) := by decide +kernel
theorem dX7_leads_117 : decode cX7_leads 117 = .ok (.goto (-107), 3) := by decide +kernel
theorem dX7_leads_120 : decode cX7_leads 120 = .ok (.iconst 0, 1) := by decide +kernel
theorem dX7_leads_121 : decode cX7_leads 121 = .ok (.ireturn, 1) := by decide +kernel
set_option maxRecDepth 20000 in
theorem ggX7_isOne_X7_overlaps : GoodIn wsX7_isOne wsX7_overlaps := goodIn_r _ [5, 6, 7, 8, 9, 4, 10, 11, 12, 13, 14, 15, 16, 17, 18, 19, 20, 21, 22, 23, 24, 25, 26, 27, 28, 29, 30, 31, 32, 33, 34, 35, 36, 37] (by decide +kernel) (by decide +kernel)
set_option maxRecDepth 20000 in
theorem gX7_isOne_X7_overlaps : GoodIn wsX7_isOne (wsV RX7 141 RX7 yX7_overlaps wsX7_overlaps) := goodIn_app (goodIn_of _ (by decide +kernel)) ggX7_isOne_X7_overlaps
theorem dX7_isOne_0 : decode cX7_isOne 0 = .ok (.iload_n 2, 1) := by decide +kernel
theorem dX7_isOne_1 : decode cX7_isOne 1 = .ok (.aload_n 0, 1) := by decide +kernel
theorem dX7_isOne_2 : decode cX7_isOne 2 = .ok (.iload_n 1, 1) := by decide +kernel
theorem dX7_isOne_3 : decode cX7_isOne 3 = .ok (.invokevirtual 141, 3) := by decide +kernel
theorem dX7_isOne_6 : decode cX7_isOne 6 = .ok (.idiv, 1) := by decide +kernel
theorem dX7_isOne_7 : decode cX7_isOne 7 = .ok (.iload_n 2, 1) := by decide +kernel
theorem dX7_isOne_8 : decode cX7_isOne 8 = .ok (.aload_n 0, 1) := by decide +kernel
theorem dX7_isOne_9 : decode cX7_isOne 9 = .ok (.iload_n 1, 1) := by decide +kernel
theorem dX7_isOne_10 : decode cX7_isOne 10 = .ok (.invokevirtual 141, 3) := by decide +kernel
theorem dX7_isOne_13 : decode cX7_isOne 13 = .ok (.irem, 1) := by decide +kernel
theorem dX7_isOne_14 : decode cX7_isOne 14 = .ok (.if_icmp .ne 7, 3) := by decide +kernel
theorem dX7_isOne_17 : decode cX7_isOne 17 = .ok (.iconst 1, 1) := by decide +kernel
theorem dX7_isOne_18 : decode cX7_isOne 18 = .ok (.goto 4, 3) := by decide +kernel
theorem dX7_isOne_21 : decode cX7_isOne 21 = .ok (.iconst 0, 1) := by decide +kernel
theorem dX7_isOne_22 : decode cX7_isOne 22 = .ok (.ireturn, 1) := by decide +kernel
set_option maxRecDepth 20000 in
theorem ggX7_parts_X7_overlaps : GoodIn wsX7_parts wsX7_overlaps := goodIn_r _ [7, 8, 9, 10, 11, 6, 12, 30, 31, 32, 33, 34, 35, 36, 37, 38, 39, 40, 41, 42, 43, 44, 45, 46, 47, 48, 49, 50, 51, 52, 53, 54, 55, 56] (by decide +kernel) (by decide +kernel)
set_option maxRecDepth 20000 in
theorem gX7_parts_X7_overlaps : GoodIn wsX7_parts (wsV RX7 141 RX7 yX7_overlaps wsX7_overlaps) := goodIn_app (goodIn_of _ (by decide +kernel)) ggX7_parts_X7_overlaps
set_option maxRecDepth 20000 in
theorem ggX7_parts_X7_isOne : GoodIn wsX7_parts wsX7_isOne := goodIn_r _ [16, 3, 4, 5, 6, 7, 8, 9, 10, 11, 12, 30, 31, 32, 33, 34, 35, 36, 37, 38, 39, 40, 41, 42, 43, 44, 45, 46, 47, 48, 49, 50, 51, 52, 53, 54, 55, 56] (by decide +kernel) (by decide +kernel)
set_option maxRecDepth 20000 in
theorem gX7_parts_X7_isOne : GoodIn wsX7_parts (wsV RX7 155 RX7 yX7_isOne wsX7_isOne) := goodIn_app (goodIn_of _ (by decide +kernel)) ggX7_parts_X7_isOne
set_option maxRecDepth 20000 in
theorem ggX7_parts_X7_leads : GoodIn wsX7_parts wsX7_leads := goodIn_r _ [20, 8, 3, 4, 5, 6, 7, 9, 10, 11, 12, 21, 22, 23, 24, 25, 26, 27, 28, 29, 30, 31, 32, 33, 34, 35, 36, 37, 38, 39, 40, 41, 42, 43, 44, 45, 46, 47, 48, 49, 50, 51, 52, 53, 54, 55, 56] (by decide +kernel) (by decide +kernel)
set_option maxRecDepth 20000 in
theorem gX7_parts_X7_leads : GoodIn wsX7_parts (wsV RX7 159 RX7 yX7_leads wsX7_leads) := goodIn_app (goodIn_of _ (by decide +kernel)) ggX7_parts_X7_leads
theorem dX7_parts_0 : decode cX7_parts 0 = .ok (.aload_n 0, 1) := by decide +kernel
theorem dX7_parts_1 : decode cX7_parts 1 = .ok (.iload_n 1, 1) := by decide +kernel
theorem dX7_parts_2 : decode cX7_parts 2 = .ok (.invokevirtual 141, 3) := by decide +kernel
theorem dX7_parts_5 : decode cX7_parts 5 = .ok (.istore_n 2, 1) := by decide +kernel
theorem dX7_parts_6 : decode cX7_parts 6 = .ok (.iload_n 2, 1) := by decide +kernel
theorem dX7_parts_7 : decode cX7_parts 7 = .ok (.iload_n 2, 1) := by decide +kernel
theorem dX7_parts_8 : decode cX7_parts 8 = .ok (.imul, 1) := by decide +kernel
theorem dX7_parts_9 : decode cX7_parts 9 = .ok (.istore_n 3, 1) := by decide +kernel
theorem dX7_parts_10 : decode cX7_parts 10 = .ok (.iconst 0, 1) := by decide +kernel
theorem dX7_parts_11 : decode cX7_parts 11 = .ok (.istore 4, 2) := by decide +kernel
theorem dX7_parts_13 : decode cX7_parts 13 = .ok (.iload 4, 2) := by decide +kernel
theorem dX7_parts_15 : decode cX7_parts 15 = .ok (.iload_n 3, 1) := by decide +kernel
theorem dX7_parts_16 : decode cX7_parts 16 = .ok (.if_icmp .ge 23, 3) := by decide +kernel
theorem dX7_parts_19 : decode cX7_parts 19 = .ok (.aload_n 0, 1) := by decide +kernel
theorem dX7_parts_20 : decode cX7_parts 20 = .ok (.getfield 40, 3) := by decide +kernel
theorem dX7_parts_23 : decode cX7_parts 23 = .ok (.iload 4, 2) := by decide +kernel
theorem dX7_parts_25 : decode cX7_parts 25 = .ok (.aload_n 0, 1) := by decide +kernel
theorem dX7_parts_26 : decode cX7_parts 26 = .ok (.iload_n 1, 1) := by decide +kernel
theorem dX7_parts_27 : decode cX7_parts 27 = .ok (.iload 4, 2) := by decide +kernel
theorem dX7_parts_29 : decode cX7_parts 29 = .ok (.invokevirtual 155, 3) := by decide +kernel
theorem dX7_parts_32 : decode cX7_parts 32 = .ok (.bastore, 1) := by decide +kernel
theorem dX7_parts_33 : decode cX7_parts 33 = .ok (.iinc 4 1, 3) := by decide +kernel
theorem dX7_parts_36 : decode cX7_parts 36 = .ok (.goto (-23), 3) := by decide +kernel
theorem dX7_parts_39 : decode cX7_parts 39 = .ok (.iconst 1, 1) := by decide +kernel
theorem dX7_parts_40 : decode cX7_parts 40 = .ok (.istore 4, 2) := by decide +kernel
theorem dX7_parts_42 : decode cX7_parts 42 = .ok (.iload 4, 2) := by decide +kernel
theorem dX7_parts_44 : decode cX7_parts 44 = .ok (.ifCond .eq 85, 3) := by decide +kernel
theorem dX7_parts_47 : decode cX7_parts 47 = .ok (.iconst 0, 1) := by decide +kernel
theorem dX7_parts_48 : decode cX7_parts 48 = .ok (.istore 4, 2) := by decide +kernel
theorem dX7_parts_50 : decode cX7_parts 50 = .ok (.iconst 0, 1) := by decide +kernel
theorem dX7_parts_51 : decode cX7_parts 51 = .ok (.istore 5, 2) := by decide +kernel
theorem dX7_parts_53 : decode cX7_parts 53 = .ok (.iload 5, 2) := by decide +kernel
theorem dX7_parts_55 : decode cX7_parts 55 = .ok (.iload_n 3, 1) := by decide +kernel
theorem dX7_parts_56 : decode cX7_parts 56 = .ok (.if_icmp .ge 70, 3) := by decide +kernel
theorem dX7_parts_59 : decode cX7_parts 59 = .ok (.iconst 0, 1) := by decide +kernel
theorem dX7_parts_60 : decode cX7_parts 60 = .ok (.istore 6, 2) := by decide +kernel
theorem dX7_parts_62 : decode cX7_parts 62 = .ok (.iload 6, 2) := by decide +kernel
theorem dX7_parts_64 : decode cX7_parts 64 = .ok (.iload_n 3, 1) := by decide +kernel
theorem dX7_parts_65 : decode cX7_parts 65 = .ok (.if_icmp .ge 55, 3) := by decide +kernel
theorem dX7_parts_68 : decode cX7_parts 68 = .ok (.aload_n 0, 1) := by decide +kernel
theorem dX7_parts_69 : decode cX7_parts 69 = .ok (.getfield 40, 3) := by decide +kernel
theorem dX7_parts_72 : decode cX7_parts 72 = .ok (.iload 5, 2) := by decide +kernel
theorem dX7_parts_74 : decode cX7_parts 74 = .ok (.baload, 1) := by decide +kernel
theorem dX7_parts_75 : decode cX7_parts 75 = .ok (.ifCond .eq 45, 3) := by decide +kernel
theorem dX7_parts_78 : decode cX7_parts 78 = .ok (.aload_n 0, 1) := by decide +kernel
theorem dX7_parts_79 : decode cX7_parts 79 = .ok (.getfield 40, 3) := by decide +kernel
theorem dX7_parts_82 : decode cX7_parts 82 = .ok (.iload 6, 2) := by decide +kernel
theorem dX7_parts_84 : decode cX7_parts 84 = .ok (.baload, 1) := by decide +kernel
theorem dX7_parts_85 : decode cX7_parts 85 = .ok (.ifCond .ne 29, 3) := by decide +kernel
theorem dX7_parts_88 : decode cX7_parts 88 = .ok (.aload_n 0, 1) := by decide +kernel
theorem dX7_parts_89 : decode cX7_parts 89 = .ok (.iload_n 1, 1) := by decide +kernel
theorem dX7_parts_90 : decode cX7_parts 90 = .ok (.iload 5, 2) := by decide +kernel
theorem dX7_parts_92 : decode cX7_parts 92 = .ok (.iload 6, 2) := by decide +kernel
theorem dX7_parts_94 : decode cX7_parts 94 = .ok (.invokevirtual 159, 3) := by decide +kernel
theorem dX7_parts_97 : decode cX7_parts 97 = .ok (.ifCond .ne 6, 3) := by decide +kernel
theorem dX7_parts_100 : decode cX7_parts 100 = .ok (.goto 14, 3) := by decide +kernel
theorem dX7_parts_103 : decode cX7_parts 103 = .ok (.aload_n 0, 1) := by decide +kernel
theorem dX7_parts_104 : decode cX7_parts 104 = .ok (.getfield 40, 3) := by decide +kernel
theorem dX7_parts_107 : decode cX7_parts 107 = .ok (.iload 6, 2) := by decide +kernel
theorem dX7_parts_109 : decode cX7_parts 109 = .ok (.iconst 1, 1) := by decide +kernel
theorem dX7_parts_110 : decode cX7_parts 110 = .ok (.bastore, 1) := by decide +kernel
theorem dX7_parts_111 : decode cX7_parts 111 = .ok (.iconst 1, 1) := by decide +kernel
theorem dX7_parts_112 : decode cX7_parts 112 = .ok (.istore 4, 2) := by decide +kernel
theorem dX7_parts_114 : decode cX7_parts 114 = .ok (.iinc 6 1, 3) := by decide +kernel
theorem dX7_parts_117 : decode cX7_parts 117 = .ok (.goto (-55), 3) := by decide +kernel
theorem dX7_parts_120 : decode cX7_parts 120 = .ok (.iinc 5 1, 3) := by decide +kernel
theorem dX7_parts_123 : decode cX7_parts 123 = .ok (.goto (-70), 3) := by decide +kernel
theorem dX7_parts_126 : decode cX7_parts 126 = .ok (.goto (-84), 3) := by decide +kernel
theorem dX7_parts_129 : decode cX7_parts 129 = .ok (.iconst 0, 1) := by decide +kernel
theorem dX7_parts_130 : decode cX7_parts 130 = .ok (.istore 5, 2) := by decide +kernel
theorem dX7_parts_132 : decode cX7_parts 132 = .ok (.iload 5, 2) := by decide +kernel
theorem dX7_parts_134 : decode cX7_parts 134 = .ok (.iload_n 3, 1) := by decide +kernel
theorem dX7_parts_135 : decode cX7_parts 135 = .ok (.if_icmp .ge 23, 3) := by decide +kernel
theorem dX7_parts_138 : decode cX7_parts 138 = .ok (.aload_n 0, 1) := by decide +kernel
theorem dX7_parts_139 : decode cX7_parts 139 = .ok (.getfield 36, 3) := by decide +kernel
theorem dX7_parts_142 : decode cX7_parts 142 = .ok (.iload 5, 2) := by decide +kernel
theorem dX7_parts_144 : decode cX7_parts 144 = .ok (.aload_n 0, 1) := by decide +kernel
theorem dX7_parts_145 : decode cX7_parts 145 = .ok (.iload_n 1, 1) := by decide +kernel
theorem dX7_parts_146 : decode cX7_parts 146 = .ok (.iload 5, 2) := by decide +kernel
theorem dX7_parts_148 : decode cX7_parts 148 = .ok (.invokevirtual 155, 3) := by decide +kernel
theorem dX7_parts_151 : decode cX7_parts 151 = .ok (.bastore, 1) := by decide +kernel
theorem dX7_parts_152 : decode cX7_parts 152 = .ok (.iinc 5 1, 3) := by decide +kernel
theorem dX7_parts_155 : decode cX7_parts 155 = .ok (.goto (-23), 3) := by decide +kernel
theorem dX7_parts_158 : decode cX7_parts 158 = .ok (.iconst 1, 1) := by decide +kernel
theorem dX7_parts_159 : decode cX7_parts 159 = .ok (.istore 4, 2) := by decide +kernel
theorem dX7_parts_161 : decode cX7_parts 161 = .ok (.iload 4, 2) := by decide +kernel
theorem dX7_parts_163 : decode cX7_parts 163 = .ok (.ifCond .eq 85, 3) := by decide +kernel
theorem dX7_parts_166 : decode cX7_parts 166 = .ok (.iconst 0, 1) := by decide +kernel
theorem dX7_parts_167 : decode cX7_parts 167 = .ok (.istore 4, 2) := by decide +kernel
theorem dX7_parts_169 : decode cX7_parts 169 = .ok (.iconst 0, 1) := by decide +kernel
theorem dX7_parts_170 : decode cX7_parts 170 = .ok (.istore 5, 2) := by decide +kernel
theorem dX7_parts_172 : decode cX7_parts 172 = .ok (.iload 5, 2) := by decide +kernel
theorem dX7_parts_174 : decode cX7_parts 174 = .ok (.iload_n 3, 1) := by decide +kernel
theorem dX7_parts_175 : decode cX7_parts 175 = .ok (.if_icmp .ge 70, 3) := by decide +kernel
theorem dX7_parts_178 : decode cX7_parts 178 = .ok (.iconst 0, 1) := by decide +kernel
theorem dX7_parts_179 : decode cX7_parts 179 = .ok (.istore 6, 2) := by decide +kernel
theorem dX7_parts_181 : decode cX7_parts 181 = .ok (.iload 6, 2) := by decide +kernel
theorem dX7_parts_183 : decode cX7_parts 183 = .ok (.iload_n 3, 1) := by decide +kernel
theorem dX7_parts_184 : decode cX7_parts 184 = .ok (.if_icmp .ge 55, 3) := by decide +kernel
theorem dX7_parts_187 : decode cX7_parts 187 = .ok (.aload_n 0, 1) := by decide +kernel
theorem dX7_parts_188 : decode cX7_parts 188 = .ok (.getfield 36, 3) := by decide +kernel
theorem dX7_parts_191 : decode cX7_parts 191 = .ok (.iload 5, 2) := by decide +kernel
theorem dX7_parts_193 : decode cX7_parts 193 = .ok (.baload, 1) := by decide +kernel
theorem dX7_parts_194 : decode cX7_parts 194 = .ok (.ifCond .ne 45, 3) := by decide +kernel
theorem dX7_parts_197 : decode cX7_parts 197 = .ok (.aload_n 0, 1) := by decide +kernel
theorem dX7_parts_198 : decode cX7_parts 198 = .ok (.getfield 36, 3) := by decide +kernel
theorem dX7_parts_201 : decode cX7_parts 201 = .ok (.iload 6, 2) := by decide +kernel
theorem dX7_parts_203 : decode cX7_parts 203 = .ok (.baload, 1) := by decide +kernel
theorem dX7_parts_204 : decode cX7_parts 204 = .ok (.ifCond .eq 29, 3) := by decide +kernel
theorem dX7_parts_207 : decode cX7_parts 207 = .ok (.aload_n 0, 1) := by decide +kernel
theorem dX7_parts_208 : decode cX7_parts 208 = .ok (.iload_n 1, 1) := by decide +kernel
theorem dX7_parts_209 : decode cX7_parts 209 = .ok (.iload 5, 2) := by decide +kernel
theorem dX7_parts_211 : decode cX7_parts 211 = .ok (.iload 6, 2) := by decide +kernel
theorem dX7_parts_213 : decode cX7_parts 213 = .ok (.invokevirtual 159, 3) := by decide +kernel
theorem dX7_parts_216 : decode cX7_parts 216 = .ok (.ifCond .ne 6, 3) := by decide +kernel
theorem dX7_parts_219 : decode cX7_parts 219 = .ok (.goto 14, 3) := by decide +kernel
theorem dX7_parts_222 : decode cX7_parts 222 = .ok (.aload_n 0, 1) := by decide +kernel
theorem dX7_parts_223 : decode cX7_parts 223 = .ok (.getfield 36, 3) := by decide +kernel
theorem dX7_parts_226 : decode cX7_parts 226 = .ok (.iload 5, 2) := by decide +kernel
theorem dX7_parts_228 : decode cX7_parts 228 = .ok (.iconst 1, 1) := by decide +kernel
theorem dX7_parts_229 : decode cX7_parts 229 = .ok (.bastore, 1) := by decide +kernel
theorem dX7_parts_230 : decode cX7_parts 230 = .ok (.iconst 1, 1) := by decide +kernel
theorem dX7_parts_231 : decode cX7_parts 231 = .ok (.istore 4, 2) := by decide +kernel
theorem dX7_parts_233 : decode cX7_parts 233 = .ok (.iinc 6 1, 3) := by decide +kernel
theorem dX7_parts_236 : decode cX7_parts 236 = .ok (.goto (-55), 3) := by decide +kernel
theorem dX7_parts_239 : decode cX7_parts 239 = .ok (.iinc 5 1, 3) := by decide +kernel
theorem dX7_parts_242 : decode cX7_parts 242 = .ok (.goto (-70), 3) := by decide +kernel
theorem dX7_parts_245 : decode cX7_parts 245 = .ok (.goto (-84), 3) := by decide +kernel
theorem dX7_parts_248 : decode cX7_parts 248 = .ok (.iconst 0, 1) := by decide +kernel
theorem dX7_parts_249 : decode cX7_parts 249 = .ok (.istore 5, 2) := by decide +kernel
theorem dX7_parts_251 : decode cX7_parts 251 = .ok (.iload 5, 2) := by decide +kernel
theorem dX7_parts_253 : decode cX7_parts 253 = .ok (.iload_n 3, 1) := by decide +kernel
theorem dX7_parts_254 : decode cX7_parts 254 = .ok (.if_icmp .ge 41, 3) := by decide +kernel
theorem dX7_parts_257 : decode cX7_parts 257 = .ok (.aload_n 0, 1) := by decide +kernel
theorem dX7_parts_258 : decode cX7_parts 258 = .ok (.iload_n 1, 1) := by decide +kernel
theorem dX7_parts_259 : decode cX7_parts 259 = .ok (.iload 5, 2) := by decide +kernel
theorem dX7_parts_261 : decode cX7_parts 261 = .ok (.invokevirtual 155, 3) := by decide +kernel
theorem dX7_parts_264 : decode cX7_parts 264 = .ok (.ifCond .ne 25, 3) := by decide +kernel
theorem dX7_parts_267 : decode cX7_parts 267 = .ok (.aload_n 0, 1) := by decide +kernel
theorem dX7_parts_268 : decode cX7_parts 268 = .ok (.getfield 40, 3) := by decide +kernel
theorem dX7_parts_271 : decode cX7_parts 271 = .ok (.iload 5, 2) := by decide +kernel
theorem dX7_parts_273 : decode cX7_parts 273 = .ok (.baload, 1) := by decide +kernel
theorem dX7_parts_274 : decode cX7_parts 274 = .ok (.ifCond .eq 15, 3) := by decide +kernel
theorem dX7_parts_277 : decode cX7_parts 277 = .ok (.aload_n 0, 1) := by decide +kernel
theorem dX7_parts_278 : decode cX7_parts 278 = .ok (.getfield 36, 3) := by decide +kernel
theorem dX7_parts_281 : decode cX7_parts 281 = .ok (.iload 5, 2) := by decide +kernel
theorem dX7_parts_283 : decode cX7_parts 283 = .ok (.baload, 1) := by decide +kernel
theorem dX7_parts_284 : decode cX7_parts 284 = .ok (.ifCond .eq 5, 3) := by decide +kernel
theorem dX7_parts_287 : decode cX7_parts 287 = .ok (.iconst 1, 1) := by decide +kernel
theorem dX7_parts_288 : decode cX7_parts 288 = .ok (.ireturn, 1) := by decide +kernel
theorem dX7_parts_289 : decode cX7_parts 289 = .ok (.iinc 5 1, 3) := by decide +kernel
theorem dX7_parts_292 : decode cX7_parts 292 = .ok (.goto (-41), 3) := by decide +kernel
theorem dX7_parts_295 : decode cX7_parts 295 = .ok (.iconst 0, 1) := by decide +kernel
theorem dX7_parts_296 : decode cX7_parts 296 = .ok (.ireturn, 1) := by decide +kernel
set_option maxRecDepth 20000 in
theorem ggX7_isEven_X7_power : GoodIn wsX7_isEven wsX7_power := goodIn_r _ [6] (by decide +kernel) (by decide +kernel)
set_option maxRecDepth 20000 in
theorem gX7_isEven_X7_power : GoodIn wsX7_isEven (va_wsS RX7 98 yX7_power wsX7_power) := goodIn_app (goodIn_of _ (by decide +kernel)) ggX7_isEven_X7_power
set_option maxRecDepth 20000 in
theorem ggX7_isEven_X7_tells : GoodIn wsX7_isEven wsX7_tells := goodIn_r _ [10, 11, 12, 13, 14, 15, 16, 17, 18, 19, 20, 21, 22, 23, 24, 25, 26, 27, 28, 29, 30, 31, 32, 33, 34, 35, 36, 37, 38] (by decide +kernel) (by decide +kernel)
set_option maxRecDepth 20000 in
theorem gX7_isEven_X7_tells : GoodIn wsX7_isEven (wsV RX7 123 RX7 yX7_tells wsX7_tells) := goodIn_app (goodIn_of _ (by decide +kernel)) ggX7_isEven_X7_tells
theorem dX7_isEven_0 : decode cX7_isEven 0 = .ok (.aload_n 0, 1) := by decide +kernel
theorem dX7_isEven_1 : decode cX7_isEven 1 = .ok (.getfield 13, 3) := by decide +kernel
theorem dX7_isEven_4 : decode cX7_isEven 4 = .ok (.iload_n 1, 1) := by decide +kernel
theorem dX7_isEven_5 : decode cX7_isEven 5 = .ok (.iaload, 1) := by decide +kernel
theorem dX7_isEven_6 : decode cX7_isEven 6 = .ok (.aload_n 0, 1) := by decide +kernel
theorem dX7_isEven_7 : decode cX7_isEven 7 = .ok (.getfield 17, 3) := by decide +kernel
theorem dX7_isEven_10 : decode cX7_isEven 10 = .ok (.iload_n 1, 1) := by decide +kernel
theorem dX7_isEven_11 : decode cX7_isEven 11 = .ok (.iaload, 1) := by decide +kernel
theorem dX7_isEven_12 : decode cX7_isEven 12 = .ok (.invokestatic 98, 3) := by decide +kernel
theorem dX7_isEven_15 : decode cX7_isEven 15 = .ok (.istore_n 2, 1) := by decide +kernel
theorem dX7_isEven_16 : decode cX7_isEven 16 = .ok (.iconst 0, 1) := by decide +kernel
theorem dX7_isEven_17 : decode cX7_isEven 17 = .ok (.istore_n 3, 1) := by decide +kernel
theorem dX7_isEven_18 : decode cX7_isEven 18 = .ok (.iload_n 3, 1) := by decide +kernel
theorem dX7_isEven_19 : decode cX7_isEven 19 = .ok (.aload_n 0, 1) := by decide +kernel
theorem dX7_isEven_20 : decode cX7_isEven 20 = .ok (.getfield 13, 3) := by decide +kernel
theorem dX7_isEven_23 : decode cX7_isEven 23 = .ok (.iload_n 1, 1) := by decide +kernel
theorem dX7_isEven_24 : decode cX7_isEven 24 = .ok (.iaload, 1) := by decide +kernel
theorem dX7_isEven_25 : decode cX7_isEven 25 = .ok (.if_icmp .ge 63, 3) := by decide +kernel
theorem dX7_isEven_28 : decode cX7_isEven 28 = .ok (.iconst 0, 1) := by decide +kernel
theorem dX7_isEven_29 : decode cX7_isEven 29 = .ok (.istore 4, 2) := by decide +kernel
theorem dX7_isEven_31 : decode cX7_isEven 31 = .ok (.iconst 0, 1) := by decide +kernel
theorem dX7_isEven_32 : decode cX7_isEven 32 = .ok (.istore 5, 2) := by decide +kernel
theorem dX7_isEven_34 : decode cX7_isEven 34 = .ok (.iload 5, 2) := by decide +kernel
theorem dX7_isEven_36 : decode cX7_isEven 36 = .ok (.iload_n 2, 1) := by decide +kernel
theorem dX7_isEven_37 : decode cX7_isEven 37 = .ok (.if_icmp .ge 30, 3) := by decide +kernel
theorem dX7_isEven_40 : decode cX7_isEven 40 = .ok (.iload 4, 2) := by decide +kernel
theorem dX7_isEven_42 : decode cX7_isEven 42 = .ok (.aload_n 0, 1) := by decide +kernel
theorem dX7_isEven_43 : decode cX7_isEven 43 = .ok (.iload_n 1, 1) := by decide +kernel
theorem dX7_isEven_44 : decode cX7_isEven 44 = .ok (.iload 5, 2) := by decide +kernel
theorem dX7_isEven_46 : decode cX7_isEven 46 = .ok (.invokevirtual 123, 3) := by decide +kernel
theorem dX7_isEven_49 : decode cX7_isEven 49 = .ok (.iload_n 3, 1) := by decide +kernel
theorem dX7_isEven_50 : decode cX7_isEven 50 = .ok (.if_icmp .ne 7, 3) := by decide +kernel
theorem dX7_isEven_53 : decode cX7_isEven 53 = .ok (.iconst 1, 1) := by decide +kernel
theorem dX7_isEven_54 : decode cX7_isEven 54 = .ok (.goto 4, 3) := by decide +kernel
theorem dX7_isEven_57 : decode cX7_isEven 57 = .ok (.iconst 0, 1) := by decide +kernel
theorem dX7_isEven_58 : decode cX7_isEven 58 = .ok (.iadd, 1) := by decide +kernel
theorem dX7_isEven_59 : decode cX7_isEven 59 = .ok (.istore 4, 2) := by decide +kernel
theorem dX7_isEven_61 : decode cX7_isEven 61 = .ok (.iinc 5 1, 3) := by decide +kernel
theorem dX7_isEven_64 : decode cX7_isEven 64 = .ok (.goto (-30), 3) := by decide +kernel
theorem dX7_isEven_67 : decode cX7_isEven 67 = .ok (.iload 4, 2) := by decide +kernel
theorem dX7_isEven_69 : decode cX7_isEven 69 = .ok (.aload_n 0, 1) := by decide +kernel
theorem dX7_isEven_70 : decode cX7_isEven 70 = .ok (.getfield 13, 3) := by decide +kernel
theorem dX7_isEven_73 : decode cX7_isEven 73 = .ok (.iload_n 1, 1) := by decide +kernel
theorem dX7_isEven_74 : decode cX7_isEven 74 = .ok (.iaload, 1) := by decide +kernel
theorem dX7_isEven_75 : decode cX7_isEven 75 = .ok (.imul, 1) := by decide +kernel
theorem dX7_isEven_76 : decode cX7_isEven 76 = .ok (.iload_n 2, 1) := by decide +kernel
theorem dX7_isEven_77 : decode cX7_isEven 77 = .ok (.if_icmp .eq 5, 3) := by decide +kernel
theorem dX7_isEven_80 : decode cX7_isEven 80 = .ok (.iconst 0, 1) := by decide +kernel
theorem dX7_isEven_81 : decode cX7_isEven 81 = .ok (.ireturn, 1) := by decide +kernel
theorem dX7_isEven_82 : decode cX7_isEven 82 = .ok (.iinc 3 1, 3) := by decide +kernel
theorem dX7_isEven_85 : decode cX7_isEven 85 = .ok (.goto (-67), 3) := by decide +kernel
theorem dX7_isEven_88 : decode cX7_isEven 88 = .ok (.iconst 1, 1) := by decide +kernel
theorem dX7_isEven_89 : decode cX7_isEven 89 = .ok (.ireturn, 1) := by decide +kernel
set_option maxRecDepth 20000 in
theorem ggX7_isFull_X7_isEven : GoodIn wsX7_isFull wsX7_isEven := goodIn_r _ [5, 6, 7, 8, 9, 4, 10, 11, 12, 13, 14, 15, 38, 39, 40, 41, 42, 43, 44, 45, 46, 47, 48, 49, 50, 51, 52, 53, 54, 55, 56, 57, 58, 59, 60, 61, 62, 63, 64] (by decide +kernel) (by decide +kernel)
set_option maxRecDepth 20000 in
theorem gX7_isFull_X7_isEven : GoodIn wsX7_isFull (wsV RX7 161 RX7 yX7_isEven wsX7_isEven) := goodIn_app (goodIn_of _ (by decide +kernel)) ggX7_isFull_X7_isEven
set_option maxRecDepth 20000 in
theorem ggX7_isFull_X7_parts : GoodIn wsX7_isFull wsX7_parts := goodIn_r _ [19, 20, 21, 22, 23, 24, 4, 25, 6, 7, 8, 9, 10, 26, 27, 28, 29, 30, 31, 32, 33, 11, 12, 13, 14, 15, 34, 35, 36, 37, 38, 39, 40, 41, 42, 43, 44, 45, 46, 47, 48, 49, 50, 51, 52, 53, 54, 55, 56, 57, 58, 59, 60, 61, 62, 63, 64] (by decide +kernel) (by decide +kernel)
set_option maxRecDepth 20000 in
theorem gX7_isFull_X7_parts : GoodIn wsX7_isFull (wsV RX7 164 RX7 yX7_parts wsX7_parts) := goodIn_app (goodIn_of _ (by decide +kernel)) ggX7_isFull_X7_parts
theorem dX7_isFull_0 : decode cX7_isFull 0 = .ok (.aload_n 0, 1) := by decide +kernel
theorem dX7_isFull_1 : decode cX7_isFull 1 = .ok (.iload_n 1, 1) := by decide +kernel
theorem dX7_isFull_2 : decode cX7_isFull 2 = .ok (.invokevirtual 161, 3) := by decide +kernel
theorem dX7_isFull_5 : decode cX7_isFull 5 = .ok (.ifCond .eq 15, 3) := by decide +kernel
theorem dX7_isFull_8 : decode cX7_isFull 8 = .ok (.aload_n 0, 1) := by decide +kernel
theorem dX7_isFull_9 : decode cX7_isFull 9 = .ok (.iload_n 1, 1) := by decide +kernel
theorem dX7_isFull_10 : decode cX7_isFull 10 = .ok (.invokevirtual 164, 3) := by decide +kernel
theorem dX7_isFull_13 : decode cX7_isFull 13 = .ok (.ifCond .ne 7, 3) := by decide +kernel
theorem dX7_isFull_16 : decode cX7_isFull 16 = .ok (.iconst 1, 1) := by decide +kernel
theorem dX7_isFull_17 : decode cX7_isFull 17 = .ok (.goto 4, 3) := by decide +kernel
theorem dX7_isFull_20 : decode cX7_isFull 20 = .ok (.iconst 0, 1) := by decide +kernel
theorem dX7_isFull_21 : decode cX7_isFull 21 = .ok (.ireturn, 1) := by decide +kernel
set_option maxRecDepth 20000 in
theorem ggX7_losesNothing_X7_isEven : GoodIn wsX7_losesNothing wsX7_isEven := goodIn_r _ [6, 7, 8, 9, 10, 5, 11, 12, 13, 14, 15, 16, 33, 34, 35, 36, 37, 38, 39, 40, 41, 42, 43, 44, 45, 46, 47, 48, 49, 50, 51, 52, 53, 54, 55, 56, 57, 58, 59] (by decide +kernel) (by decide +kernel)
set_option maxRecDepth 20000 in
theorem gX7_losesNothing_X7_isEven : GoodIn wsX7_losesNothing (wsV RX7 161 RX7 yX7_isEven wsX7_isEven) := goodIn_app (goodIn_of _ (by decide +kernel)) ggX7_losesNothing_X7_isEven
set_option maxRecDepth 20000 in
theorem ggX7_losesNothing_X7_overlaps : GoodIn wsX7_losesNothing wsX7_overlaps := goodIn_r _ [20, 7, 8, 9, 10, 5, 11, 33, 34, 35, 36, 37, 38, 39, 40, 41, 42, 43, 44, 45, 46, 47, 48, 49, 50, 51, 52, 53, 54, 55, 56, 57, 58, 59] (by decide +kernel) (by decide +kernel)
set_option maxRecDepth 20000 in
theorem gX7_losesNothing_X7_overlaps : GoodIn wsX7_losesNothing (wsV RX7 141 RX7 yX7_overlaps wsX7_overlaps) := goodIn_app (goodIn_of _ (by decide +kernel)) ggX7_losesNothing_X7_overlaps
set_option maxRecDepth 20000 in
theorem ggX7_losesNothing_X7_isOne : GoodIn wsX7_losesNothing wsX7_isOne := goodIn_r _ [24, 17, 18, 19, 5, 20, 7, 8, 9, 10, 11, 33, 34, 35, 36, 37, 38, 39, 40, 41, 42, 43, 44, 45, 46, 47, 48, 49, 50, 51, 52, 53, 54, 55, 56, 57, 58, 59] (by decide +kernel) (by decide +kernel)
set_option maxRecDepth 20000 in
theorem gX7_losesNothing_X7_isOne : GoodIn wsX7_losesNothing (wsV RX7 155 RX7 yX7_isOne wsX7_isOne) := goodIn_app (goodIn_of _ (by decide +kernel)) ggX7_losesNothing_X7_isOne
set_option maxRecDepth 20000 in
theorem ggX7_losesNothing_X7_leads : GoodIn wsX7_losesNothing wsX7_leads := goodIn_r _ [28, 7, 17, 18, 19, 5, 20, 8, 9, 10, 11, 12, 13, 14, 15, 16, 29, 30, 31, 32, 33, 34, 35, 36, 37, 38, 39, 40, 41, 42, 43, 44, 45, 46, 47, 48, 49, 50, 51, 52, 53, 54, 55, 56, 57, 58, 59] (by decide +kernel) (by decide +kernel)
set_option maxRecDepth 20000 in
theorem gX7_losesNothing_X7_leads : GoodIn wsX7_losesNothing (wsV RX7 159 RX7 yX7_leads wsX7_leads) := goodIn_app (goodIn_of _ (by decide +kernel)) ggX7_losesNothing_X7_leads
theorem dX7_losesNothing_0 : decode cX7_losesNothing 0 = .ok (.aload_n 0, 1) := by decide +kernel
theorem dX7_losesNothing_1 : decode cX7_losesNothing 1 = .ok (.iload_n 1, 1) := by decide +kernel
theorem dX7_losesNothing_2 : decode cX7_losesNothing 2 = .ok (.invokevirtual 161, 3) := by decide +kernel
theorem dX7_losesNothing_5 : decode cX7_losesNothing 5 = .ok (.ifCond .ne 5, 3) := by decide +kernel
theorem dX7_losesNothing_8 : decode cX7_losesNothing 8 = .ok (.iconst 0, 1) := by decide +kernel
theorem dX7_losesNothing_9 : decode cX7_losesNothing 9 = .ok (.ireturn, 1) := by decide +kernel
theorem dX7_losesNothing_10 : decode cX7_losesNothing 10 = .ok (.aload_n 0, 1) := by decide +kernel
theorem dX7_losesNothing_11 : decode cX7_losesNothing 11 = .ok (.iload_n 1, 1) := by decide +kernel
theorem dX7_losesNothing_12 : decode cX7_losesNothing 12 = .ok (.invokevirtual 141, 3) := by decide +kernel
theorem dX7_losesNothing_15 : decode cX7_losesNothing 15 = .ok (.aload_n 0, 1) := by decide +kernel
theorem dX7_losesNothing_16 : decode cX7_losesNothing 16 = .ok (.iload_n 1, 1) := by decide +kernel
theorem dX7_losesNothing_17 : decode cX7_losesNothing 17 = .ok (.invokevirtual 141, 3) := by decide +kernel
theorem dX7_losesNothing_20 : decode cX7_losesNothing 20 = .ok (.imul, 1) := by decide +kernel
theorem dX7_losesNothing_21 : decode cX7_losesNothing 21 = .ok (.istore_n 2, 1) := by decide +kernel
theorem dX7_losesNothing_22 : decode cX7_losesNothing 22 = .ok (.iconst 0, 1) := by decide +kernel
theorem dX7_losesNothing_23 : decode cX7_losesNothing 23 = .ok (.istore_n 3, 1) := by decide +kernel
theorem dX7_losesNothing_24 : decode cX7_losesNothing 24 = .ok (.iload_n 3, 1) := by decide +kernel
theorem dX7_losesNothing_25 : decode cX7_losesNothing 25 = .ok (.iload_n 2, 1) := by decide +kernel
theorem dX7_losesNothing_26 : decode cX7_losesNothing 26 = .ok (.if_icmp .ge 16, 3) := by decide +kernel
theorem dX7_losesNothing_29 : decode cX7_losesNothing 29 = .ok (.aload_n 0, 1) := by decide +kernel
theorem dX7_losesNothing_30 : decode cX7_losesNothing 30 = .ok (.getfield 36, 3) := by decide +kernel
theorem dX7_losesNothing_33 : decode cX7_losesNothing 33 = .ok (.iload_n 3, 1) := by decide +kernel
theorem dX7_losesNothing_34 : decode cX7_losesNothing 34 = .ok (.iconst 1, 1) := by decide +kernel
theorem dX7_losesNothing_35 : decode cX7_losesNothing 35 = .ok (.bastore, 1) := by decide +kernel
theorem dX7_losesNothing_36 : decode cX7_losesNothing 36 = .ok (.iinc 3 1, 3) := by decide +kernel
theorem dX7_losesNothing_39 : decode cX7_losesNothing 39 = .ok (.goto (-15), 3) := by decide +kernel
theorem dX7_losesNothing_42 : decode cX7_losesNothing 42 = .ok (.iconst 1, 1) := by decide +kernel
theorem dX7_losesNothing_43 : decode cX7_losesNothing 43 = .ok (.istore_n 3, 1) := by decide +kernel
theorem dX7_losesNothing_44 : decode cX7_losesNothing 44 = .ok (.iload_n 3, 1) := by decide +kernel
theorem dX7_losesNothing_45 : decode cX7_losesNothing 45 = .ok (.ifCond .eq 151, 3) := by decide +kernel
theorem dX7_losesNothing_48 : decode cX7_losesNothing 48 = .ok (.iconst 0, 1) := by decide +kernel
theorem dX7_losesNothing_49 : decode cX7_losesNothing 49 = .ok (.istore_n 3, 1) := by decide +kernel
theorem dX7_losesNothing_50 : decode cX7_losesNothing 50 = .ok (.iconst 0, 1) := by decide +kernel
theorem dX7_losesNothing_51 : decode cX7_losesNothing 51 = .ok (.istore 4, 2) := by decide +kernel
theorem dX7_losesNothing_53 : decode cX7_losesNothing 53 = .ok (.iload 4, 2) := by decide +kernel
theorem dX7_losesNothing_55 : decode cX7_losesNothing 55 = .ok (.iload_n 2, 1) := by decide +kernel
theorem dX7_losesNothing_56 : decode cX7_losesNothing 56 = .ok (.if_icmp .ge 137, 3) := by decide +kernel
theorem dX7_losesNothing_59 : decode cX7_losesNothing 59 = .ok (.aload_n 0, 1) := by decide +kernel
theorem dX7_losesNothing_60 : decode cX7_losesNothing 60 = .ok (.getfield 36, 3) := by decide +kernel
theorem dX7_losesNothing_63 : decode cX7_losesNothing 63 = .ok (.iload 4, 2) := by decide +kernel
theorem dX7_losesNothing_65 : decode cX7_losesNothing 65 = .ok (.baload, 1) := by decide +kernel
theorem dX7_losesNothing_66 : decode cX7_losesNothing 66 = .ok (.ifCond .eq 121, 3) := by decide +kernel
theorem dX7_losesNothing_69 : decode cX7_losesNothing 69 = .ok (.aload_n 0, 1) := by decide +kernel
theorem dX7_losesNothing_70 : decode cX7_losesNothing 70 = .ok (.iload_n 1, 1) := by decide +kernel
theorem dX7_losesNothing_71 : decode cX7_losesNothing 71 = .ok (.iload 4, 2) := by decide +kernel
theorem dX7_losesNothing_73 : decode cX7_losesNothing 73 = .ok (.invokevirtual 155, 3) := by decide +kernel
theorem dX7_losesNothing_76 : decode cX7_losesNothing 76 = .ok (.ifCond .eq 6, 3) := by decide +kernel
theorem dX7_losesNothing_79 : decode cX7_losesNothing 79 = .ok (.goto 108, 3) := by decide +kernel
theorem dX7_losesNothing_82 : decode cX7_losesNothing 82 = .ok (.iconst 0, 1) := by decide +kernel
theorem dX7_losesNothing_83 : decode cX7_losesNothing 83 = .ok (.istore 5, 2) := by decide +kernel
theorem dX7_losesNothing_85 : decode cX7_losesNothing 85 = .ok (.iconst 0, 1) := by decide +kernel
theorem dX7_losesNothing_86 : decode cX7_losesNothing 86 = .ok (.istore 6, 2) := by decide +kernel
theorem dX7_losesNothing_88 : decode cX7_losesNothing 88 = .ok (.iconst 0, 1) := by decide +kernel
theorem dX7_losesNothing_89 : decode cX7_losesNothing 89 = .ok (.istore 7, 2) := by decide +kernel
theorem dX7_losesNothing_91 : decode cX7_losesNothing 91 = .ok (.iload 7, 2) := by decide +kernel
theorem dX7_losesNothing_93 : decode cX7_losesNothing 93 = .ok (.iload_n 2, 1) := by decide +kernel
theorem dX7_losesNothing_94 : decode cX7_losesNothing 94 = .ok (.if_icmp .ge 70, 3) := by decide +kernel
theorem dX7_losesNothing_97 : decode cX7_losesNothing 97 = .ok (.aload_n 0, 1) := by decide +kernel
theorem dX7_losesNothing_98 : decode cX7_losesNothing 98 = .ok (.getfield 36, 3) := by decide +kernel
theorem dX7_losesNothing_101 : decode cX7_losesNothing 101 = .ok (.iload 7, 2) := by decide +kernel
theorem dX7_losesNothing_103 : decode cX7_losesNothing 103 = .ok (.baload, 1) := by decide +kernel
theorem dX7_losesNothing_104 : decode cX7_losesNothing 104 = .ok (.ifCond .ne 6, 3) := by decide +kernel
theorem dX7_losesNothing_107 : decode cX7_losesNothing 107 = .ok (.goto 51, 3) := by decide +kernel
theorem dX7_losesNothing_110 : decode cX7_losesNothing 110 = .ok (.iload 5, 2) := by decide +kernel
theorem dX7_losesNothing_112 : decode cX7_losesNothing 112 = .ok (.ifCond .ne 15, 3) := by decide +kernel
theorem dX7_losesNothing_115 : decode cX7_losesNothing 115 = .ok (.aload_n 0, 1) := by decide +kernel
theorem dX7_losesNothing_116 : decode cX7_losesNothing 116 = .ok (.iload_n 1, 1) := by decide +kernel
theorem dX7_losesNothing_117 : decode cX7_losesNothing 117 = .ok (.iload 4, 2) := by decide +kernel
theorem dX7_losesNothing_119 : decode cX7_losesNothing 119 = .ok (.iload 7, 2) := by decide +kernel
theorem dX7_losesNothing_121 : decode cX7_losesNothing 121 = .ok (.invokevirtual 159, 3) := by decide +kernel
theorem dX7_losesNothing_124 : decode cX7_losesNothing 124 = .ok (.ifCond .eq 7, 3) := by decide +kernel
theorem dX7_losesNothing_127 : decode cX7_losesNothing 127 = .ok (.iconst 1, 1) := by decide +kernel
theorem dX7_losesNothing_128 : decode cX7_losesNothing 128 = .ok (.goto 4, 3) := by decide +kernel
theorem dX7_losesNothing_131 : decode cX7_losesNothing 131 = .ok (.iconst 0, 1) := by decide +kernel
theorem dX7_losesNothing_132 : decode cX7_losesNothing 132 = .ok (.istore 5, 2) := by decide +kernel
theorem dX7_losesNothing_134 : decode cX7_losesNothing 134 = .ok (.iload 6, 2) := by decide +kernel
theorem dX7_losesNothing_136 : decode cX7_losesNothing 136 = .ok (.ifCond .ne 15, 3) := by decide +kernel
theorem dX7_losesNothing_139 : decode cX7_losesNothing 139 = .ok (.aload_n 0, 1) := by decide +kernel
theorem dX7_losesNothing_140 : decode cX7_losesNothing 140 = .ok (.iload_n 1, 1) := by decide +kernel
theorem dX7_losesNothing_141 : decode cX7_losesNothing 141 = .ok (.iload 7, 2) := by decide +kernel
theorem dX7_losesNothing_143 : decode cX7_losesNothing 143 = .ok (.iload 4, 2) := by decide +kernel
theorem dX7_losesNothing_145 : decode cX7_losesNothing 145 = .ok (.invokevirtual 159, 3) := by decide +kernel
theorem dX7_losesNothing_148 : decode cX7_losesNothing 148 = .ok (.ifCond .eq 7, 3) := by decide +kernel
theorem dX7_losesNothing_151 : decode cX7_losesNothing 151 = .ok (.iconst 1, 1) := by decide +kernel
theorem dX7_losesNothing_152 : decode cX7_losesNothing 152 = .ok (.goto 4, 3) := by decide +kernel
theorem dX7_losesNothing_155 : decode cX7_losesNothing 155 = .ok (.iconst 0, 1) := by decide +kernel
theorem dX7_losesNothing_156 : decode cX7_losesNothing 156 = .ok (.istore 6, 2) := by decide +kernel
theorem dX7_losesNothing_158 : decode cX7_losesNothing 158 = .ok (.iinc 7 1, 3) := by decide +kernel
theorem dX7_losesNothing_161 : decode cX7_losesNothing 161 = .ok (.goto (-70), 3) := by decide +kernel
theorem dX7_losesNothing_164 : decode cX7_losesNothing 164 = .ok (.iload 5, 2) := by decide +kernel
theorem dX7_losesNothing_166 : decode cX7_losesNothing 166 = .ok (.ifCond .eq 11, 3) := by decide +kernel
theorem dX7_losesNothing_169 : decode cX7_losesNothing 169 = .ok (.iload 6, 2) := by decide +kernel
theorem dX7_losesNothing_171 : decode cX7_losesNothing 171 = .ok (.ifCond .eq 6, 3) := by decide +kernel
theorem dX7_losesNothing_174 : decode cX7_losesNothing 174 = .ok (.goto 13, 3) := by decide +kernel
theorem dX7_losesNothing_177 : decode cX7_losesNothing 177 = .ok (.aload_n 0, 1) := by decide +kernel
theorem dX7_losesNothing_178 : decode cX7_losesNothing 178 = .ok (.getfield 36, 3) := by decide +kernel
theorem dX7_losesNothing_181 : decode cX7_losesNothing 181 = .ok (.iload 4, 2) := by decide +kernel
theorem dX7_losesNothing_183 : decode cX7_losesNothing 183 = .ok (.iconst 0, 1) := by decide +kernel
theorem dX7_losesNothing_184 : decode cX7_losesNothing 184 = .ok (.bastore, 1) := by decide +kernel
theorem dX7_losesNothing_185 : decode cX7_losesNothing 185 = .ok (.iconst 1, 1) := by decide +kernel
theorem dX7_losesNothing_186 : decode cX7_losesNothing 186 = .ok (.istore_n 3, 1) := by decide +kernel
theorem dX7_losesNothing_187 : decode cX7_losesNothing 187 = .ok (.iinc 4 1, 3) := by decide +kernel
theorem dX7_losesNothing_190 : decode cX7_losesNothing 190 = .ok (.goto (-137), 3) := by decide +kernel
theorem dX7_losesNothing_193 : decode cX7_losesNothing 193 = .ok (.goto (-149), 3) := by decide +kernel
theorem dX7_losesNothing_196 : decode cX7_losesNothing 196 = .ok (.iconst 0, 1) := by decide +kernel
theorem dX7_losesNothing_197 : decode cX7_losesNothing 197 = .ok (.istore 4, 2) := by decide +kernel
theorem dX7_losesNothing_199 : decode cX7_losesNothing 199 = .ok (.iload 4, 2) := by decide +kernel
theorem dX7_losesNothing_201 : decode cX7_losesNothing 201 = .ok (.iload_n 2, 1) := by decide +kernel
theorem dX7_losesNothing_202 : decode cX7_losesNothing 202 = .ok (.if_icmp .ge 31, 3) := by decide +kernel
theorem dX7_losesNothing_205 : decode cX7_losesNothing 205 = .ok (.aload_n 0, 1) := by decide +kernel
theorem dX7_losesNothing_206 : decode cX7_losesNothing 206 = .ok (.getfield 36, 3) := by decide +kernel
theorem dX7_losesNothing_209 : decode cX7_losesNothing 209 = .ok (.iload 4, 2) := by decide +kernel
theorem dX7_losesNothing_211 : decode cX7_losesNothing 211 = .ok (.baload, 1) := by decide +kernel
theorem dX7_losesNothing_212 : decode cX7_losesNothing 212 = .ok (.ifCond .eq 15, 3) := by decide +kernel
theorem dX7_losesNothing_215 : decode cX7_losesNothing 215 = .ok (.aload_n 0, 1) := by decide +kernel
theorem dX7_losesNothing_216 : decode cX7_losesNothing 216 = .ok (.iload_n 1, 1) := by decide +kernel
theorem dX7_losesNothing_217 : decode cX7_losesNothing 217 = .ok (.iload 4, 2) := by decide +kernel
theorem dX7_losesNothing_219 : decode cX7_losesNothing 219 = .ok (.invokevirtual 155, 3) := by decide +kernel
theorem dX7_losesNothing_222 : decode cX7_losesNothing 222 = .ok (.ifCond .ne 5, 3) := by decide +kernel
theorem dX7_losesNothing_225 : decode cX7_losesNothing 225 = .ok (.iconst 0, 1) := by decide +kernel
theorem dX7_losesNothing_226 : decode cX7_losesNothing 226 = .ok (.ireturn, 1) := by decide +kernel
theorem dX7_losesNothing_227 : decode cX7_losesNothing 227 = .ok (.iinc 4 1, 3) := by decide +kernel
theorem dX7_losesNothing_230 : decode cX7_losesNothing 230 = .ok (.goto (-31), 3) := by decide +kernel
theorem dX7_losesNothing_233 : decode cX7_losesNothing 233 = .ok (.iconst 1, 1) := by decide +kernel
theorem dX7_losesNothing_234 : decode cX7_losesNothing 234 = .ok (.ireturn, 1) := by decide +kernel
set_option maxRecDepth 20000 in
theorem ggX7_about_X7_has : GoodIn wsX7_about wsX7_has := goodIn_r _ [8, 2, 9, 10, 7, 11, 54, 55, 56, 57, 58, 59, 60, 61, 62, 63, 64, 65, 66, 67, 68, 69, 70, 71, 72, 73, 74, 75, 76, 77, 78, 79, 80] (by decide +kernel) (by decide +kernel)
set_option maxRecDepth 20000 in
theorem gX7_about_X7_has : GoodIn wsX7_about (wsV RX7 120 RX7 yX7_has wsX7_has) := goodIn_app (goodIn_of _ (by decide +kernel)) ggX7_about_X7_has
set_option maxRecDepth 20000 in
theorem ggX7_about_X7_isFull : GoodIn wsX7_about wsX7_isFull := goodIn_r _ [15, 16, 17, 18, 7, 19, 2, 3, 20, 21, 22, 23, 24, 25, 26, 27, 28, 29, 30, 31, 32, 33, 34, 35, 36, 37, 38, 39, 40, 41, 42, 43, 44, 45, 46, 47, 48, 49, 54, 55, 56, 57, 58, 59, 60, 61, 62, 63, 64, 65, 66, 67, 68, 69, 70, 71, 72, 73, 74, 75, 76, 77, 78, 79, 80] (by decide +kernel) (by decide +kernel)
set_option maxRecDepth 20000 in
theorem gX7_about_X7_isFull : GoodIn wsX7_about (wsV RX7 167 RX7 yX7_isFull wsX7_isFull) := goodIn_app (goodIn_of _ (by decide +kernel)) ggX7_about_X7_isFull
set_option maxRecDepth 20000 in
theorem ggX7_about_X7_losesNothing : GoodIn wsX7_about wsX7_losesNothing := goodIn_r _ [53, 33, 16, 17, 18, 7, 19, 2, 3, 20, 21, 22, 23, 24, 25, 26, 27, 34, 35, 36, 37, 38, 39, 40, 41, 42, 43, 44, 45, 46, 47, 48, 49, 54, 55, 56, 57, 58, 59, 60, 61, 62, 63, 64, 65, 66, 67, 68, 69, 70, 71, 72, 73, 74, 75, 76, 77, 78, 79, 80] (by decide +kernel) (by decide +kernel)
set_option maxRecDepth 20000 in
theorem gX7_about_X7_losesNothing : GoodIn wsX7_about (wsV RX7 170 RX7 yX7_losesNothing wsX7_losesNothing) := goodIn_app (goodIn_of _ (by decide +kernel)) ggX7_about_X7_losesNothing
theorem dX7_about_0 : decode cX7_about 0 = .ok (.aload_n 0, 1) := by decide +kernel
theorem dX7_about_1 : decode cX7_about 1 = .ok (.iconst 0, 1) := by decide +kernel
theorem dX7_about_2 : decode cX7_about 2 = .ok (.putfield 80, 3) := by decide +kernel
theorem dX7_about_5 : decode cX7_about 5 = .ok (.aload_n 0, 1) := by decide +kernel
theorem dX7_about_6 : decode cX7_about 6 = .ok (.iload_n 1, 1) := by decide +kernel
theorem dX7_about_7 : decode cX7_about 7 = .ok (.invokevirtual 120, 3) := by decide +kernel
theorem dX7_about_10 : decode cX7_about 10 = .ok (.ifCond .ne 5, 3) := by decide +kernel
theorem dX7_about_13 : decode cX7_about 13 = .ok (.iconst (-1), 1) := by decide +kernel
theorem dX7_about_14 : decode cX7_about 14 = .ok (.ireturn, 1) := by decide +kernel
theorem dX7_about_15 : decode cX7_about 15 = .ok (.iload_n 2, 1) := by decide +kernel
theorem dX7_about_16 : decode cX7_about 16 = .ok (.tableswitch 74 0 3 #[32, 39, 46, 60], 32) := by decide +kernel
theorem dX7_about_48 : decode cX7_about 48 = .ok (.aload_n 0, 1) := by decide +kernel
theorem dX7_about_49 : decode cX7_about 49 = .ok (.getfield 13, 3) := by decide +kernel
theorem dX7_about_52 : decode cX7_about 52 = .ok (.iload_n 1, 1) := by decide +kernel
theorem dX7_about_53 : decode cX7_about 53 = .ok (.iaload, 1) := by decide +kernel
theorem dX7_about_54 : decode cX7_about 54 = .ok (.ireturn, 1) := by decide +kernel
theorem dX7_about_55 : decode cX7_about 55 = .ok (.aload_n 0, 1) := by decide +kernel
theorem dX7_about_56 : decode cX7_about 56 = .ok (.getfield 17, 3) := by decide +kernel
theorem dX7_about_59 : decode cX7_about 59 = .ok (.iload_n 1, 1) := by decide +kernel
theorem dX7_about_60 : decode cX7_about 60 = .ok (.iaload, 1) := by decide +kernel
theorem dX7_about_61 : decode cX7_about 61 = .ok (.ireturn, 1) := by decide +kernel
theorem dX7_about_62 : decode cX7_about 62 = .ok (.aload_n 0, 1) := by decide +kernel
theorem dX7_about_63 : decode cX7_about 63 = .ok (.iload_n 1, 1) := by decide +kernel
theorem dX7_about_64 : decode cX7_about 64 = .ok (.invokevirtual 167, 3) := by decide +kernel
theorem dX7_about_67 : decode cX7_about 67 = .ok (.ifCond .eq 7, 3) := by decide +kernel
theorem dX7_about_70 : decode cX7_about 70 = .ok (.iconst 1, 1) := by decide +kernel
theorem dX7_about_71 : decode cX7_about 71 = .ok (.goto 4, 3) := by decide +kernel
theorem dX7_about_74 : decode cX7_about 74 = .ok (.iconst 0, 1) := by decide +kernel
theorem dX7_about_75 : decode cX7_about 75 = .ok (.ireturn, 1) := by decide +kernel
theorem dX7_about_76 : decode cX7_about 76 = .ok (.aload_n 0, 1) := by decide +kernel
theorem dX7_about_77 : decode cX7_about 77 = .ok (.iload_n 1, 1) := by decide +kernel
theorem dX7_about_78 : decode cX7_about 78 = .ok (.invokevirtual 170, 3) := by decide +kernel
theorem dX7_about_81 : decode cX7_about 81 = .ok (.ifCond .eq 7, 3) := by decide +kernel
theorem dX7_about_84 : decode cX7_about 84 = .ok (.iconst 1, 1) := by decide +kernel
theorem dX7_about_85 : decode cX7_about 85 = .ok (.goto 4, 3) := by decide +kernel
theorem dX7_about_88 : decode cX7_about 88 = .ok (.iconst 0, 1) := by decide +kernel
theorem dX7_about_89 : decode cX7_about 89 = .ok (.ireturn, 1) := by decide +kernel
theorem dX7_about_90 : decode cX7_about 90 = .ok (.iconst (-1), 1) := by decide +kernel
theorem dX7_about_91 : decode cX7_about 91 = .ok (.ireturn, 1) := by decide +kernel
set_option maxRecDepth 20000 in
theorem ggX7_missed_X7_has : GoodIn wsX7_missed wsX7_has := goodIn_r _ [11, 4, 12, 13, 10, 14, 38, 39, 40, 41, 42, 43, 44, 45, 46, 47, 48, 49, 50, 51, 52, 53, 54, 55, 56, 57, 58, 59, 60, 61, 62, 63, 64] (by decide +kernel) (by decide +kernel)
set_option maxRecDepth 20000 in
theorem gX7_missed_X7_has : GoodIn wsX7_missed (wsV RX7 120 RX7 yX7_has wsX7_has) := goodIn_app (goodIn_of _ (by decide +kernel)) ggX7_missed_X7_has
set_option maxRecDepth 20000 in
theorem ggX7_missed_X7_overlaps : GoodIn wsX7_missed wsX7_overlaps := goodIn_r _ [18, 4, 19, 20, 21, 10, 22, 38, 39, 40, 41, 42, 43, 44, 45, 46, 47, 48, 49, 50, 51, 52, 53, 54, 55, 56, 57, 58, 59, 60, 61, 62, 63, 64] (by decide +kernel) (by decide +kernel)
set_option maxRecDepth 20000 in
theorem gX7_missed_X7_overlaps : GoodIn wsX7_missed (wsV RX7 141 RX7 yX7_overlaps wsX7_overlaps) := goodIn_app (goodIn_of _ (by decide +kernel)) ggX7_missed_X7_overlaps
set_option maxRecDepth 20000 in
theorem ggX7_missed_X7_tells : GoodIn wsX7_missed wsX7_tells := goodIn_r _ [26, 27, 38, 39, 40, 41, 42, 43, 44, 45, 46, 47, 48, 49, 50, 51, 52, 53, 54, 55, 56, 57, 58, 59, 60, 61, 62, 63, 64] (by decide +kernel) (by decide +kernel)
set_option maxRecDepth 20000 in
theorem gX7_missed_X7_tells : GoodIn wsX7_missed (wsV RX7 123 RX7 yX7_tells wsX7_tells) := goodIn_app (goodIn_of _ (by decide +kernel)) ggX7_missed_X7_tells
set_option maxRecDepth 20000 in
theorem ggX7_missed_X7_then : GoodIn wsX7_missed wsX7_then := goodIn_r _ [31, 4, 15, 16, 17, 10, 18, 19, 20, 21, 22, 38, 39, 40, 41, 42, 43, 44, 45, 46, 47, 48, 49, 50, 51, 52, 53, 54, 55, 56, 57, 58, 59, 60, 61, 62, 63, 64] (by decide +kernel) (by decide +kernel)
set_option maxRecDepth 20000 in
theorem gX7_missed_X7_then : GoodIn wsX7_missed (wsV RX7 144 RX7 yX7_then wsX7_then) := goodIn_app (goodIn_of _ (by decide +kernel)) ggX7_missed_X7_then
set_option maxRecDepth 20000 in
theorem ggX7_missed_X7_tellLine : GoodIn wsX7_missed wsX7_tellLine := goodIn_r _ [35, 5, 36, 37, 6, 38, 39, 40, 41, 42, 43, 44, 45, 46, 47, 48, 49, 50, 51, 52, 53, 54, 55, 56, 57, 58, 59, 60, 61, 62, 63, 64] (by decide +kernel) (by decide +kernel)
set_option maxRecDepth 20000 in
theorem gX7_missed_X7_tellLine : GoodIn wsX7_missed (wsV RX7 173 RX7 yX7_tellLine wsX7_tellLine) := goodIn_app (goodIn_of _ (by decide +kernel)) ggX7_missed_X7_tellLine
theorem dX7_missed_0 : decode cX7_missed 0 = .ok (.aload_n 0, 1) := by decide +kernel
theorem dX7_missed_1 : decode cX7_missed 1 = .ok (.iconst 0, 1) := by decide +kernel
theorem dX7_missed_2 : decode cX7_missed 2 = .ok (.putfield 80, 3) := by decide +kernel
theorem dX7_missed_5 : decode cX7_missed 5 = .ok (.aload_n 0, 1) := by decide +kernel
theorem dX7_missed_6 : decode cX7_missed 6 = .ok (.iload_n 1, 1) := by decide +kernel
theorem dX7_missed_7 : decode cX7_missed 7 = .ok (.invokevirtual 120, 3) := by decide +kernel
theorem dX7_missed_10 : decode cX7_missed 10 = .ok (.ifCond .ne 5, 3) := by decide +kernel
theorem dX7_missed_13 : decode cX7_missed 13 = .ok (.iconst (-1), 1) := by decide +kernel
theorem dX7_missed_14 : decode cX7_missed 14 = .ok (.ireturn, 1) := by decide +kernel
theorem dX7_missed_15 : decode cX7_missed 15 = .ok (.aload_n 0, 1) := by decide +kernel
theorem dX7_missed_16 : decode cX7_missed 16 = .ok (.iload_n 1, 1) := by decide +kernel
theorem dX7_missed_17 : decode cX7_missed 17 = .ok (.invokevirtual 141, 3) := by decide +kernel
theorem dX7_missed_20 : decode cX7_missed 20 = .ok (.istore_n 2, 1) := by decide +kernel
theorem dX7_missed_21 : decode cX7_missed 21 = .ok (.iconst 0, 1) := by decide +kernel
theorem dX7_missed_22 : decode cX7_missed 22 = .ok (.istore_n 3, 1) := by decide +kernel
theorem dX7_missed_23 : decode cX7_missed 23 = .ok (.iload_n 3, 1) := by decide +kernel
theorem dX7_missed_24 : decode cX7_missed 24 = .ok (.sipush 512, 3) := by decide +kernel
theorem dX7_missed_27 : decode cX7_missed 27 = .ok (.if_icmp .ge 16, 3) := by decide +kernel
theorem dX7_missed_30 : decode cX7_missed 30 = .ok (.aload_n 0, 1) := by decide +kernel
theorem dX7_missed_31 : decode cX7_missed 31 = .ok (.getfield 52, 3) := by decide +kernel
theorem dX7_missed_34 : decode cX7_missed 34 = .ok (.iload_n 3, 1) := by decide +kernel
theorem dX7_missed_35 : decode cX7_missed 35 = .ok (.iconst 0, 1) := by decide +kernel
theorem dX7_missed_36 : decode cX7_missed 36 = .ok (.bastore, 1) := by decide +kernel
theorem dX7_missed_37 : decode cX7_missed 37 = .ok (.iinc 3 1, 3) := by decide +kernel
theorem dX7_missed_40 : decode cX7_missed 40 = .ok (.goto (-17), 3) := by decide +kernel
theorem dX7_missed_43 : decode cX7_missed 43 = .ok (.iconst 1, 1) := by decide +kernel
theorem dX7_missed_44 : decode cX7_missed 44 = .ok (.istore_n 3, 1) := by decide +kernel
theorem dX7_missed_45 : decode cX7_missed 45 = .ok (.aload_n 0, 1) := by decide +kernel
theorem dX7_missed_46 : decode cX7_missed 46 = .ok (.getfield 43, 3) := by decide +kernel
theorem dX7_missed_49 : decode cX7_missed 49 = .ok (.iconst 0, 1) := by decide +kernel
theorem dX7_missed_50 : decode cX7_missed 50 = .ok (.iconst 1, 1) := by decide +kernel
theorem dX7_missed_51 : decode cX7_missed 51 = .ok (.iload_n 2, 1) := by decide +kernel
theorem dX7_missed_52 : decode cX7_missed 52 = .ok (.ishl, 1) := by decide +kernel
theorem dX7_missed_53 : decode cX7_missed 53 = .ok (.iconst 1, 1) := by decide +kernel
theorem dX7_missed_54 : decode cX7_missed 54 = .ok (.isub, 1) := by decide +kernel
theorem dX7_missed_55 : decode cX7_missed 55 = .ok (.iastore, 1) := by decide +kernel
theorem dX7_missed_56 : decode cX7_missed 56 = .ok (.aload_n 0, 1) := by decide +kernel
theorem dX7_missed_57 : decode cX7_missed 57 = .ok (.getfield 52, 3) := by decide +kernel
theorem dX7_missed_60 : decode cX7_missed 60 = .ok (.aload_n 0, 1) := by decide +kernel
theorem dX7_missed_61 : decode cX7_missed 61 = .ok (.getfield 43, 3) := by decide +kernel
theorem dX7_missed_64 : decode cX7_missed 64 = .ok (.iconst 0, 1) := by decide +kernel
theorem dX7_missed_65 : decode cX7_missed 65 = .ok (.iaload, 1) := by decide +kernel
theorem dX7_missed_66 : decode cX7_missed 66 = .ok (.iconst 1, 1) := by decide +kernel
theorem dX7_missed_67 : decode cX7_missed 67 = .ok (.bastore, 1) := by decide +kernel
theorem dX7_missed_68 : decode cX7_missed 68 = .ok (.iconst 0, 1) := by decide +kernel
theorem dX7_missed_69 : decode cX7_missed 69 = .ok (.istore 4, 2) := by decide +kernel
theorem dX7_missed_71 : decode cX7_missed 71 = .ok (.iload 4, 2) := by decide +kernel
theorem dX7_missed_73 : decode cX7_missed 73 = .ok (.iload_n 3, 1) := by decide +kernel
theorem dX7_missed_74 : decode cX7_missed 74 = .ok (.if_icmp .ge 182, 3) := by decide +kernel
theorem dX7_missed_77 : decode cX7_missed 77 = .ok (.iconst 0, 1) := by decide +kernel
theorem dX7_missed_78 : decode cX7_missed 78 = .ok (.istore 5, 2) := by decide +kernel
theorem dX7_missed_80 : decode cX7_missed 80 = .ok (.iload 5, 2) := by decide +kernel
theorem dX7_missed_82 : decode cX7_missed 82 = .ok (.aload_n 0, 1) := by decide +kernel
theorem dX7_missed_83 : decode cX7_missed 83 = .ok (.getfield 13, 3) := by decide +kernel
theorem dX7_missed_86 : decode cX7_missed 86 = .ok (.iload_n 1, 1) := by decide +kernel
theorem dX7_missed_87 : decode cX7_missed 87 = .ok (.iaload, 1) := by decide +kernel
theorem dX7_missed_88 : decode cX7_missed 88 = .ok (.if_icmp .ge 162, 3) := by decide +kernel
theorem dX7_missed_91 : decode cX7_missed 91 = .ok (.iconst 0, 1) := by decide +kernel
theorem dX7_missed_92 : decode cX7_missed 92 = .ok (.istore 6, 2) := by decide +kernel
theorem dX7_missed_94 : decode cX7_missed 94 = .ok (.iconst 0, 1) := by decide +kernel
theorem dX7_missed_95 : decode cX7_missed 95 = .ok (.istore 7, 2) := by decide +kernel
theorem dX7_missed_97 : decode cX7_missed 97 = .ok (.iload 7, 2) := by decide +kernel
theorem dX7_missed_99 : decode cX7_missed 99 = .ok (.iload_n 2, 1) := by decide +kernel
theorem dX7_missed_100 : decode cX7_missed 100 = .ok (.if_icmp .ge 83, 3) := by decide +kernel
theorem dX7_missed_103 : decode cX7_missed 103 = .ok (.iconst 0, 1) := by decide +kernel
theorem dX7_missed_104 : decode cX7_missed 104 = .ok (.istore 8, 2) := by decide +kernel
theorem dX7_missed_106 : decode cX7_missed 106 = .ok (.iload 8, 2) := by decide +kernel
theorem dX7_missed_108 : decode cX7_missed 108 = .ok (.aload_n 0, 1) := by decide +kernel
theorem dX7_missed_109 : decode cX7_missed 109 = .ok (.getfield 13, 3) := by decide +kernel
theorem dX7_missed_112 : decode cX7_missed 112 = .ok (.iload_n 1, 1) := by decide +kernel
theorem dX7_missed_113 : decode cX7_missed 113 = .ok (.iaload, 1) := by decide +kernel
theorem dX7_missed_114 : decode cX7_missed 114 = .ok (.if_icmp .ge 63, 3) := by decide +kernel
theorem dX7_missed_117 : decode cX7_missed 117 = .ok (.aload_n 0, 1) := by decide +kernel
theorem dX7_missed_118 : decode cX7_missed 118 = .ok (.getfield 43, 3) := by decide +kernel
theorem dX7_missed_121 : decode cX7_missed 121 = .ok (.iload 4, 2) := by decide +kernel
theorem dX7_missed_123 : decode cX7_missed 123 = .ok (.iaload, 1) := by decide +kernel
theorem dX7_missed_124 : decode cX7_missed 124 = .ok (.iload 7, 2) := by decide +kernel
theorem dX7_missed_126 : decode cX7_missed 126 = .ok (.ishr, 1) := by decide +kernel
theorem dX7_missed_127 : decode cX7_missed 127 = .ok (.iconst 1, 1) := by decide +kernel
theorem dX7_missed_128 : decode cX7_missed 128 = .ok (.iand, 1) := by decide +kernel
theorem dX7_missed_129 : decode cX7_missed 129 = .ok (.iconst 1, 1) := by decide +kernel
theorem dX7_missed_130 : decode cX7_missed 130 = .ok (.if_icmp .ne 41, 3) := by decide +kernel
theorem dX7_missed_133 : decode cX7_missed 133 = .ok (.aload_n 0, 1) := by decide +kernel
theorem dX7_missed_134 : decode cX7_missed 134 = .ok (.iload_n 1, 1) := by decide +kernel
theorem dX7_missed_135 : decode cX7_missed 135 = .ok (.aload_n 0, 1) := by decide +kernel
theorem dX7_missed_136 : decode cX7_missed 136 = .ok (.getfield 13, 3) := by decide +kernel
theorem dX7_missed_139 : decode cX7_missed 139 = .ok (.iload_n 1, 1) := by decide +kernel
theorem dX7_missed_140 : decode cX7_missed 140 = .ok (.iaload, 1) := by decide +kernel
theorem dX7_missed_141 : decode cX7_missed 141 = .ok (.iload 7, 2) := by decide +kernel
theorem dX7_missed_143 : decode cX7_missed 143 = .ok (.imul, 1) := by decide +kernel
theorem dX7_missed_144 : decode cX7_missed 144 = .ok (.iload 8, 2) := by decide +kernel
theorem dX7_missed_146 : decode cX7_missed 146 = .ok (.iadd, 1) := by decide +kernel
theorem dX7_missed_147 : decode cX7_missed 147 = .ok (.invokevirtual 123, 3) := by decide +kernel
theorem dX7_missed_150 : decode cX7_missed 150 = .ok (.iload 5, 2) := by decide +kernel
theorem dX7_missed_152 : decode cX7_missed 152 = .ok (.if_icmp .ne 19, 3) := by decide +kernel
theorem dX7_missed_155 : decode cX7_missed 155 = .ok (.iload 6, 2) := by decide +kernel
theorem dX7_missed_157 : decode cX7_missed 157 = .ok (.iconst 1, 1) := by decide +kernel
theorem dX7_missed_158 : decode cX7_missed 158 = .ok (.aload_n 0, 1) := by decide +kernel
theorem dX7_missed_159 : decode cX7_missed 159 = .ok (.iload_n 1, 1) := by decide +kernel
theorem dX7_missed_160 : decode cX7_missed 160 = .ok (.iload 7, 2) := by decide +kernel
theorem dX7_missed_162 : decode cX7_missed 162 = .ok (.iload 8, 2) := by decide +kernel
theorem dX7_missed_164 : decode cX7_missed 164 = .ok (.invokevirtual 144, 3) := by decide +kernel
theorem dX7_missed_167 : decode cX7_missed 167 = .ok (.ishl, 1) := by decide +kernel
theorem dX7_missed_168 : decode cX7_missed 168 = .ok (.ior, 1) := by decide +kernel
theorem dX7_missed_169 : decode cX7_missed 169 = .ok (.istore 6, 2) := by decide +kernel
theorem dX7_missed_171 : decode cX7_missed 171 = .ok (.iinc 8 1, 3) := by decide +kernel
theorem dX7_missed_174 : decode cX7_missed 174 = .ok (.goto (-68), 3) := by decide +kernel
theorem dX7_missed_177 : decode cX7_missed 177 = .ok (.iinc 7 1, 3) := by decide +kernel
theorem dX7_missed_180 : decode cX7_missed 180 = .ok (.goto (-83), 3) := by decide +kernel
theorem dX7_missed_183 : decode cX7_missed 183 = .ok (.aload_n 0, 1) := by decide +kernel
theorem dX7_missed_184 : decode cX7_missed 184 = .ok (.getfield 52, 3) := by decide +kernel
theorem dX7_missed_187 : decode cX7_missed 187 = .ok (.iload 6, 2) := by decide +kernel
theorem dX7_missed_189 : decode cX7_missed 189 = .ok (.baload, 1) := by decide +kernel
theorem dX7_missed_190 : decode cX7_missed 190 = .ok (.ifCond .eq 6, 3) := by decide +kernel
theorem dX7_missed_193 : decode cX7_missed 193 = .ok (.goto 51, 3) := by decide +kernel
theorem dX7_missed_196 : decode cX7_missed 196 = .ok (.aload_n 0, 1) := by decide +kernel
theorem dX7_missed_197 : decode cX7_missed 197 = .ok (.getfield 52, 3) := by decide +kernel
theorem dX7_missed_200 : decode cX7_missed 200 = .ok (.iload 6, 2) := by decide +kernel
theorem dX7_missed_202 : decode cX7_missed 202 = .ok (.iconst 1, 1) := by decide +kernel
theorem dX7_missed_203 : decode cX7_missed 203 = .ok (.bastore, 1) := by decide +kernel
theorem dX7_missed_204 : decode cX7_missed 204 = .ok (.aload_n 0, 1) := by decide +kernel
theorem dX7_missed_205 : decode cX7_missed 205 = .ok (.getfield 43, 3) := by decide +kernel
theorem dX7_missed_208 : decode cX7_missed 208 = .ok (.iload_n 3, 1) := by decide +kernel
theorem dX7_missed_209 : decode cX7_missed 209 = .ok (.iload 6, 2) := by decide +kernel
theorem dX7_missed_211 : decode cX7_missed 211 = .ok (.iastore, 1) := by decide +kernel
theorem dX7_missed_212 : decode cX7_missed 212 = .ok (.aload_n 0, 1) := by decide +kernel
theorem dX7_missed_213 : decode cX7_missed 213 = .ok (.getfield 46, 3) := by decide +kernel
theorem dX7_missed_216 : decode cX7_missed 216 = .ok (.iload_n 3, 1) := by decide +kernel
theorem dX7_missed_217 : decode cX7_missed 217 = .ok (.iload 4, 2) := by decide +kernel
theorem dX7_missed_219 : decode cX7_missed 219 = .ok (.iastore, 1) := by decide +kernel
theorem dX7_missed_220 : decode cX7_missed 220 = .ok (.aload_n 0, 1) := by decide +kernel
theorem dX7_missed_221 : decode cX7_missed 221 = .ok (.getfield 49, 3) := by decide +kernel
theorem dX7_missed_224 : decode cX7_missed 224 = .ok (.iload_n 3, 1) := by decide +kernel
theorem dX7_missed_225 : decode cX7_missed 225 = .ok (.iload 5, 2) := by decide +kernel
theorem dX7_missed_227 : decode cX7_missed 227 = .ok (.iastore, 1) := by decide +kernel
theorem dX7_missed_228 : decode cX7_missed 228 = .ok (.iinc 3 1, 3) := by decide +kernel
theorem dX7_missed_231 : decode cX7_missed 231 = .ok (.iload 6, 2) := by decide +kernel
theorem dX7_missed_233 : decode cX7_missed 233 = .ok (.ifCond .ne 11, 3) := by decide +kernel
theorem dX7_missed_236 : decode cX7_missed 236 = .ok (.aload_n 0, 1) := by decide +kernel
theorem dX7_missed_237 : decode cX7_missed 237 = .ok (.iload_n 3, 1) := by decide +kernel
theorem dX7_missed_238 : decode cX7_missed 238 = .ok (.iconst 1, 1) := by decide +kernel
theorem dX7_missed_239 : decode cX7_missed 239 = .ok (.isub, 1) := by decide +kernel
theorem dX7_missed_240 : decode cX7_missed 240 = .ok (.invokevirtual 173, 3) := by decide +kernel
theorem dX7_missed_243 : decode cX7_missed 243 = .ok (.ireturn, 1) := by decide +kernel
theorem dX7_missed_244 : decode cX7_missed 244 = .ok (.iinc 5 1, 3) := by decide +kernel
theorem dX7_missed_247 : decode cX7_missed 247 = .ok (.goto (-167), 3) := by decide +kernel
theorem dX7_missed_250 : decode cX7_missed 250 = .ok (.iinc 4 1, 3) := by decide +kernel
theorem dX7_missed_253 : decode cX7_missed 253 = .ok (.goto (-182), 3) := by decide +kernel
theorem dX7_missed_256 : decode cX7_missed 256 = .ok (.iconst 0, 1) := by decide +kernel
theorem dX7_missed_257 : decode cX7_missed 257 = .ok (.ireturn, 1) := by decide +kernel
theorem dX7_tellLine_0 : decode cX7_tellLine 0 = .ok (.iconst 0, 1) := by decide +kernel
theorem dX7_tellLine_1 : decode cX7_tellLine 1 = .ok (.istore_n 2, 1) := by decide +kernel
theorem dX7_tellLine_2 : decode cX7_tellLine 2 = .ok (.iload_n 1, 1) := by decide +kernel
theorem dX7_tellLine_3 : decode cX7_tellLine 3 = .ok (.istore_n 3, 1) := by decide +kernel
theorem dX7_tellLine_4 : decode cX7_tellLine 4 = .ok (.iload_n 3, 1) := by decide +kernel
theorem dX7_tellLine_5 : decode cX7_tellLine 5 = .ok (.ifCond .le 16, 3) := by decide +kernel
theorem dX7_tellLine_8 : decode cX7_tellLine 8 = .ok (.iinc 2 1, 3) := by decide +kernel
theorem dX7_tellLine_11 : decode cX7_tellLine 11 = .ok (.aload_n 0, 1) := by decide +kernel
theorem dX7_tellLine_12 : decode cX7_tellLine 12 = .ok (.getfield 46, 3) := by decide +kernel
theorem dX7_tellLine_15 : decode cX7_tellLine 15 = .ok (.iload_n 3, 1) := by decide +kernel
theorem dX7_tellLine_16 : decode cX7_tellLine 16 = .ok (.iaload, 1) := by decide +kernel
theorem dX7_tellLine_17 : decode cX7_tellLine 17 = .ok (.istore_n 3, 1) := by decide +kernel
theorem dX7_tellLine_18 : decode cX7_tellLine 18 = .ok (.goto (-14), 3) := by decide +kernel
theorem dX7_tellLine_21 : decode cX7_tellLine 21 = .ok (.aload_n 0, 1) := by decide +kernel
theorem dX7_tellLine_22 : decode cX7_tellLine 22 = .ok (.iload_n 2, 1) := by decide +kernel
theorem dX7_tellLine_23 : decode cX7_tellLine 23 = .ok (.putfield 113, 3) := by decide +kernel
theorem dX7_tellLine_26 : decode cX7_tellLine 26 = .ok (.iload_n 1, 1) := by decide +kernel
theorem dX7_tellLine_27 : decode cX7_tellLine 27 = .ok (.istore_n 3, 1) := by decide +kernel
theorem dX7_tellLine_28 : decode cX7_tellLine 28 = .ok (.iload_n 3, 1) := by decide +kernel
theorem dX7_tellLine_29 : decode cX7_tellLine 29 = .ok (.ifCond .le 29, 3) := by decide +kernel
theorem dX7_tellLine_32 : decode cX7_tellLine 32 = .ok (.iinc 2 (-1), 3) := by decide +kernel
theorem dX7_tellLine_35 : decode cX7_tellLine 35 = .ok (.aload_n 0, 1) := by decide +kernel
theorem dX7_tellLine_36 : decode cX7_tellLine 36 = .ok (.getfield 23, 3) := by decide +kernel
theorem dX7_tellLine_39 : decode cX7_tellLine 39 = .ok (.iload_n 2, 1) := by decide +kernel
theorem dX7_tellLine_40 : decode cX7_tellLine 40 = .ok (.aload_n 0, 1) := by decide +kernel
theorem dX7_tellLine_41 : decode cX7_tellLine 41 = .ok (.getfield 49, 3) := by decide +kernel
theorem dX7_tellLine_44 : decode cX7_tellLine 44 = .ok (.iload_n 3, 1) := by decide +kernel
theorem dX7_tellLine_45 : decode cX7_tellLine 45 = .ok (.iaload, 1) := by decide +kernel
theorem dX7_tellLine_46 : decode cX7_tellLine 46 = .ok (.i2b, 1) := by decide +kernel
theorem dX7_tellLine_47 : decode cX7_tellLine 47 = .ok (.bastore, 1) := by decide +kernel
theorem dX7_tellLine_48 : decode cX7_tellLine 48 = .ok (.aload_n 0, 1) := by decide +kernel
theorem dX7_tellLine_49 : decode cX7_tellLine 49 = .ok (.getfield 46, 3) := by decide +kernel
theorem dX7_tellLine_52 : decode cX7_tellLine 52 = .ok (.iload_n 3, 1) := by decide +kernel
theorem dX7_tellLine_53 : decode cX7_tellLine 53 = .ok (.iaload, 1) := by decide +kernel
theorem dX7_tellLine_54 : decode cX7_tellLine 54 = .ok (.istore_n 3, 1) := by decide +kernel
theorem dX7_tellLine_55 : decode cX7_tellLine 55 = .ok (.goto (-27), 3) := by decide +kernel
theorem dX7_tellLine_58 : decode cX7_tellLine 58 = .ok (.aload_n 0, 1) := by decide +kernel
theorem dX7_tellLine_59 : decode cX7_tellLine 59 = .ok (.getfield 113, 3) := by decide +kernel
theorem dX7_tellLine_62 : decode cX7_tellLine 62 = .ok (.ireturn, 1) := by decide +kernel
set_option maxRecDepth 20000 in
theorem ggX7_turns_X7_power : GoodIn wsX7_turns wsX7_power := goodIn_r _ [8] (by decide +kernel) (by decide +kernel)
set_option maxRecDepth 20000 in
theorem gX7_turns_X7_power : GoodIn wsX7_turns (va_wsS RX7 98 yX7_power wsX7_power) := goodIn_app (goodIn_of _ (by decide +kernel)) ggX7_turns_X7_power
set_option maxRecDepth 20000 in
theorem ggX7_turns_X7_tells : GoodIn wsX7_turns wsX7_tells := goodIn_r _ [12, 4, 13, 14, 15, 16, 17, 18, 19, 20, 21, 22, 23, 24, 25, 26, 27, 28, 29, 30, 31, 32, 33, 34, 35, 36, 37, 38, 39] (by decide +kernel) (by decide +kernel)
set_option maxRecDepth 20000 in
theorem gX7_turns_X7_tells : GoodIn wsX7_turns (wsV RX7 123 RX7 yX7_tells wsX7_tells) := goodIn_app (goodIn_of _ (by decide +kernel)) ggX7_turns_X7_tells
theorem dX7_turns_0 : decode cX7_turns 0 = .ok (.aload_n 0, 1) := by decide +kernel
theorem dX7_turns_1 : decode cX7_turns 1 = .ok (.getfield 13, 3) := by decide +kernel
theorem dX7_turns_4 : decode cX7_turns 4 = .ok (.iload_n 1, 1) := by decide +kernel
theorem dX7_turns_5 : decode cX7_turns 5 = .ok (.iaload, 1) := by decide +kernel
theorem dX7_turns_6 : decode cX7_turns 6 = .ok (.istore 4, 2) := by decide +kernel
theorem dX7_turns_8 : decode cX7_turns 8 = .ok (.aload_n 0, 1) := by decide +kernel
theorem dX7_turns_9 : decode cX7_turns 9 = .ok (.getfield 17, 3) := by decide +kernel
theorem dX7_turns_12 : decode cX7_turns 12 = .ok (.iload_n 1, 1) := by decide +kernel
theorem dX7_turns_13 : decode cX7_turns 13 = .ok (.iaload, 1) := by decide +kernel
theorem dX7_turns_14 : decode cX7_turns 14 = .ok (.istore 5, 2) := by decide +kernel
theorem dX7_turns_16 : decode cX7_turns 16 = .ok (.iload 4, 2) := by decide +kernel
theorem dX7_turns_18 : decode cX7_turns 18 = .ok (.iload 5, 2) := by decide +kernel
theorem dX7_turns_20 : decode cX7_turns 20 = .ok (.iload_n 2, 1) := by decide +kernel
theorem dX7_turns_21 : decode cX7_turns 21 = .ok (.iadd, 1) := by decide +kernel
theorem dX7_turns_22 : decode cX7_turns 22 = .ok (.iconst 1, 1) := by decide +kernel
theorem dX7_turns_23 : decode cX7_turns 23 = .ok (.isub, 1) := by decide +kernel
theorem dX7_turns_24 : decode cX7_turns 24 = .ok (.invokestatic 98, 3) := by decide +kernel
theorem dX7_turns_27 : decode cX7_turns 27 = .ok (.istore 6, 2) := by decide +kernel
theorem dX7_turns_29 : decode cX7_turns 29 = .ok (.iconst 0, 1) := by decide +kernel
theorem dX7_turns_30 : decode cX7_turns 30 = .ok (.istore 7, 2) := by decide +kernel
theorem dX7_turns_32 : decode cX7_turns 32 = .ok (.iload 7, 2) := by decide +kernel
theorem dX7_turns_34 : decode cX7_turns 34 = .ok (.iload 4, 2) := by decide +kernel
theorem dX7_turns_36 : decode cX7_turns 36 = .ok (.iload_n 2, 1) := by decide +kernel
theorem dX7_turns_37 : decode cX7_turns 37 = .ok (.invokestatic 98, 3) := by decide +kernel
theorem dX7_turns_40 : decode cX7_turns 40 = .ok (.if_icmp .ge 17, 3) := by decide +kernel
theorem dX7_turns_43 : decode cX7_turns 43 = .ok (.aload_n 0, 1) := by decide +kernel
theorem dX7_turns_44 : decode cX7_turns 44 = .ok (.getfield 55, 3) := by decide +kernel
theorem dX7_turns_47 : decode cX7_turns 47 = .ok (.iload 7, 2) := by decide +kernel
theorem dX7_turns_49 : decode cX7_turns 49 = .ok (.iconst (-1), 1) := by decide +kernel
theorem dX7_turns_50 : decode cX7_turns 50 = .ok (.iastore, 1) := by decide +kernel
theorem dX7_turns_51 : decode cX7_turns 51 = .ok (.iinc 7 1, 3) := by decide +kernel
theorem dX7_turns_54 : decode cX7_turns 54 = .ok (.goto (-22), 3) := by decide +kernel
theorem dX7_turns_57 : decode cX7_turns 57 = .ok (.iconst 0, 1) := by decide +kernel
theorem dX7_turns_58 : decode cX7_turns 58 = .ok (.istore 7, 2) := by decide +kernel
theorem dX7_turns_60 : decode cX7_turns 60 = .ok (.iload 7, 2) := by decide +kernel
theorem dX7_turns_62 : decode cX7_turns 62 = .ok (.iload 6, 2) := by decide +kernel
theorem dX7_turns_64 : decode cX7_turns 64 = .ok (.if_icmp .ge 116, 3) := by decide +kernel
theorem dX7_turns_67 : decode cX7_turns 67 = .ok (.iconst 0, 1) := by decide +kernel
theorem dX7_turns_68 : decode cX7_turns 68 = .ok (.istore 8, 2) := by decide +kernel
theorem dX7_turns_70 : decode cX7_turns 70 = .ok (.iconst 0, 1) := by decide +kernel
theorem dX7_turns_71 : decode cX7_turns 71 = .ok (.istore 9, 2) := by decide +kernel
theorem dX7_turns_73 : decode cX7_turns 73 = .ok (.iload 9, 2) := by decide +kernel
theorem dX7_turns_75 : decode cX7_turns 75 = .ok (.iload_n 2, 1) := by decide +kernel
theorem dX7_turns_76 : decode cX7_turns 76 = .ok (.if_icmp .ge 44, 3) := by decide +kernel
theorem dX7_turns_79 : decode cX7_turns 79 = .ok (.iload 4, 2) := by decide +kernel
theorem dX7_turns_81 : decode cX7_turns 81 = .ok (.iload 8, 2) := by decide +kernel
theorem dX7_turns_83 : decode cX7_turns 83 = .ok (.imul, 1) := by decide +kernel
theorem dX7_turns_84 : decode cX7_turns 84 = .ok (.aload_n 0, 1) := by decide +kernel
theorem dX7_turns_85 : decode cX7_turns 85 = .ok (.iload_n 1, 1) := by decide +kernel
theorem dX7_turns_86 : decode cX7_turns 86 = .ok (.iload 7, 2) := by decide +kernel
theorem dX7_turns_88 : decode cX7_turns 88 = .ok (.iload 4, 2) := by decide +kernel
theorem dX7_turns_90 : decode cX7_turns 90 = .ok (.iload_n 2, 1) := by decide +kernel
theorem dX7_turns_91 : decode cX7_turns 91 = .ok (.iconst 1, 1) := by decide +kernel
theorem dX7_turns_92 : decode cX7_turns 92 = .ok (.isub, 1) := by decide +kernel
theorem dX7_turns_93 : decode cX7_turns 93 = .ok (.iload 9, 2) := by decide +kernel
theorem dX7_turns_95 : decode cX7_turns 95 = .ok (.isub, 1) := by decide +kernel
theorem dX7_turns_96 : decode cX7_turns 96 = .ok (.invokestatic 98, 3) := by decide +kernel
theorem dX7_turns_99 : decode cX7_turns 99 = .ok (.idiv, 1) := by decide +kernel
theorem dX7_turns_100 : decode cX7_turns 100 = .ok (.iload 4, 2) := by decide +kernel
theorem dX7_turns_102 : decode cX7_turns 102 = .ok (.iload 5, 2) := by decide +kernel
theorem dX7_turns_104 : decode cX7_turns 104 = .ok (.invokestatic 98, 3) := by decide +kernel
theorem dX7_turns_107 : decode cX7_turns 107 = .ok (.irem, 1) := by decide +kernel
theorem dX7_turns_108 : decode cX7_turns 108 = .ok (.invokevirtual 123, 3) := by decide +kernel
theorem dX7_turns_111 : decode cX7_turns 111 = .ok (.iadd, 1) := by decide +kernel
theorem dX7_turns_112 : decode cX7_turns 112 = .ok (.istore 8, 2) := by decide +kernel
theorem dX7_turns_114 : decode cX7_turns 114 = .ok (.iinc 9 1, 3) := by decide +kernel
theorem dX7_turns_117 : decode cX7_turns 117 = .ok (.goto (-44), 3) := by decide +kernel
theorem dX7_turns_120 : decode cX7_turns 120 = .ok (.iload 7, 2) := by decide +kernel
theorem dX7_turns_122 : decode cX7_turns 122 = .ok (.iload 4, 2) := by decide +kernel
theorem dX7_turns_124 : decode cX7_turns 124 = .ok (.iload 5, 2) := by decide +kernel
theorem dX7_turns_126 : decode cX7_turns 126 = .ok (.iload_n 2, 1) := by decide +kernel
theorem dX7_turns_127 : decode cX7_turns 127 = .ok (.iadd, 1) := by decide +kernel
theorem dX7_turns_128 : decode cX7_turns 128 = .ok (.iconst 2, 1) := by decide +kernel
theorem dX7_turns_129 : decode cX7_turns 129 = .ok (.isub, 1) := by decide +kernel
theorem dX7_turns_130 : decode cX7_turns 130 = .ok (.iload_n 3, 1) := by decide +kernel
theorem dX7_turns_131 : decode cX7_turns 131 = .ok (.isub, 1) := by decide +kernel
theorem dX7_turns_132 : decode cX7_turns 132 = .ok (.invokestatic 98, 3) := by decide +kernel
theorem dX7_turns_135 : decode cX7_turns 135 = .ok (.idiv, 1) := by decide +kernel
theorem dX7_turns_136 : decode cX7_turns 136 = .ok (.iload 4, 2) := by decide +kernel
theorem dX7_turns_138 : decode cX7_turns 138 = .ok (.irem, 1) := by decide +kernel
theorem dX7_turns_139 : decode cX7_turns 139 = .ok (.istore 9, 2) := by decide +kernel
theorem dX7_turns_141 : decode cX7_turns 141 = .ok (.aload_n 0, 1) := by decide +kernel
theorem dX7_turns_142 : decode cX7_turns 142 = .ok (.getfield 55, 3) := by decide +kernel
theorem dX7_turns_145 : decode cX7_turns 145 = .ok (.iload 8, 2) := by decide +kernel
theorem dX7_turns_147 : decode cX7_turns 147 = .ok (.iaload, 1) := by decide +kernel
theorem dX7_turns_148 : decode cX7_turns 148 = .ok (.ifCond .lt 17, 3) := by decide +kernel
theorem dX7_turns_151 : decode cX7_turns 151 = .ok (.aload_n 0, 1) := by decide +kernel
theorem dX7_turns_152 : decode cX7_turns 152 = .ok (.getfield 55, 3) := by decide +kernel
theorem dX7_turns_155 : decode cX7_turns 155 = .ok (.iload 8, 2) := by decide +kernel
theorem dX7_turns_157 : decode cX7_turns 157 = .ok (.iaload, 1) := by decide +kernel
theorem dX7_turns_158 : decode cX7_turns 158 = .ok (.iload 9, 2) := by decide +kernel
theorem dX7_turns_160 : decode cX7_turns 160 = .ok (.if_icmp .eq 5, 3) := by decide +kernel
theorem dX7_turns_163 : decode cX7_turns 163 = .ok (.iconst 0, 1) := by decide +kernel
theorem dX7_turns_164 : decode cX7_turns 164 = .ok (.ireturn, 1) := by decide +kernel
theorem dX7_turns_165 : decode cX7_turns 165 = .ok (.aload_n 0, 1) := by decide +kernel
theorem dX7_turns_166 : decode cX7_turns 166 = .ok (.getfield 55, 3) := by decide +kernel
theorem dX7_turns_169 : decode cX7_turns 169 = .ok (.iload 8, 2) := by decide +kernel
theorem dX7_turns_171 : decode cX7_turns 171 = .ok (.iload 9, 2) := by decide +kernel
theorem dX7_turns_173 : decode cX7_turns 173 = .ok (.iastore, 1) := by decide +kernel
theorem dX7_turns_174 : decode cX7_turns 174 = .ok (.iinc 7 1, 3) := by decide +kernel
theorem dX7_turns_177 : decode cX7_turns 177 = .ok (.goto (-117), 3) := by decide +kernel
theorem dX7_turns_180 : decode cX7_turns 180 = .ok (.iconst 0, 1) := by decide +kernel
theorem dX7_turns_181 : decode cX7_turns 181 = .ok (.istore 7, 2) := by decide +kernel
theorem dX7_turns_183 : decode cX7_turns 183 = .ok (.iload 7, 2) := by decide +kernel
theorem dX7_turns_185 : decode cX7_turns 185 = .ok (.iload 4, 2) := by decide +kernel
theorem dX7_turns_187 : decode cX7_turns 187 = .ok (.iload_n 2, 1) := by decide +kernel
theorem dX7_turns_188 : decode cX7_turns 188 = .ok (.invokestatic 98, 3) := by decide +kernel
theorem dX7_turns_191 : decode cX7_turns 191 = .ok (.if_icmp .ge 39, 3) := by decide +kernel
theorem dX7_turns_194 : decode cX7_turns 194 = .ok (.aload_n 0, 1) := by decide +kernel
theorem dX7_turns_195 : decode cX7_turns 195 = .ok (.getfield 55, 3) := by decide +kernel
theorem dX7_turns_198 : decode cX7_turns 198 = .ok (.iload 7, 2) := by decide +kernel
theorem dX7_turns_200 : decode cX7_turns 200 = .ok (.iaload, 1) := by decide +kernel
theorem dX7_turns_201 : decode cX7_turns 201 = .ok (.ifCond .ge 5, 3) := by decide +kernel
theorem dX7_turns_204 : decode cX7_turns 204 = .ok (.iconst 0, 1) := by decide +kernel
theorem dX7_turns_205 : decode cX7_turns 205 = .ok (.ireturn, 1) := by decide +kernel
theorem dX7_turns_206 : decode cX7_turns 206 = .ok (.aload_n 0, 1) := by decide +kernel
theorem dX7_turns_207 : decode cX7_turns 207 = .ok (.getfield 20, 3) := by decide +kernel
theorem dX7_turns_210 : decode cX7_turns 210 = .ok (.sipush 162, 3) := by decide +kernel
theorem dX7_turns_213 : decode cX7_turns 213 = .ok (.iload 7, 2) := by decide +kernel
theorem dX7_turns_215 : decode cX7_turns 215 = .ok (.iadd, 1) := by decide +kernel
theorem dX7_turns_216 : decode cX7_turns 216 = .ok (.aload_n 0, 1) := by decide +kernel
theorem dX7_turns_217 : decode cX7_turns 217 = .ok (.getfield 55, 3) := by decide +kernel
theorem dX7_turns_220 : decode cX7_turns 220 = .ok (.iload 7, 2) := by decide +kernel
theorem dX7_turns_222 : decode cX7_turns 222 = .ok (.iaload, 1) := by decide +kernel
theorem dX7_turns_223 : decode cX7_turns 223 = .ok (.iastore, 1) := by decide +kernel
theorem dX7_turns_224 : decode cX7_turns 224 = .ok (.iinc 7 1, 3) := by decide +kernel
theorem dX7_turns_227 : decode cX7_turns 227 = .ok (.goto (-44), 3) := by decide +kernel
theorem dX7_turns_230 : decode cX7_turns 230 = .ok (.iconst 1, 1) := by decide +kernel
theorem dX7_turns_231 : decode cX7_turns 231 = .ok (.ireturn, 1) := by decide +kernel
set_option maxRecDepth 20000 in
theorem ggX7_back_X7_has : GoodIn wsX7_back wsX7_has := goodIn_r _ [8, 2, 9, 10, 7, 11, 32, 33, 34, 35, 36, 37, 38, 39, 40, 41, 42, 43, 44, 45, 46, 47, 48, 49, 50, 51, 52, 53, 54, 55, 56, 57, 58] (by decide +kernel) (by decide +kernel)
set_option maxRecDepth 20000 in
theorem gX7_back_X7_has : GoodIn wsX7_back (wsV RX7 120 RX7 yX7_has wsX7_has) := goodIn_app (goodIn_of _ (by decide +kernel)) ggX7_back_X7_has
set_option maxRecDepth 20000 in
theorem ggX7_back_X7_isSlot : GoodIn wsX7_back wsX7_isSlot := goodIn_r _ [11] (by decide +kernel) (by decide +kernel)
set_option maxRecDepth 20000 in
theorem gX7_back_X7_isSlot : GoodIn wsX7_back (va_wsS RX7 94 yX7_isSlot wsX7_isSlot) := goodIn_app (goodIn_of _ (by decide +kernel)) ggX7_back_X7_isSlot
set_option maxRecDepth 20000 in
theorem ggX7_back_X7_widest : GoodIn wsX7_back wsX7_widest := goodIn_r _ [14] (by decide +kernel) (by decide +kernel)
set_option maxRecDepth 20000 in
theorem gX7_back_X7_widest : GoodIn wsX7_back (va_wsS RX7 105 yX7_widest wsX7_widest) := goodIn_app (goodIn_of _ (by decide +kernel)) ggX7_back_X7_widest
set_option maxRecDepth 20000 in
theorem ggX7_back_X7_turns : GoodIn wsX7_back wsX7_turns := goodIn_r _ [18, 2, 3, 19, 20, 21, 22, 7, 23, 24, 25, 26, 27, 32, 33, 34, 35, 36, 37, 38, 39, 40, 41, 42, 43, 44, 45, 46, 47, 48, 49, 50, 51, 52, 53, 54, 55, 56, 57, 58] (by decide +kernel) (by decide +kernel)
set_option maxRecDepth 20000 in
theorem gX7_back_X7_turns : GoodIn wsX7_back (wsV RX7 176 RX7 yX7_turns wsX7_turns) := goodIn_app (goodIn_of _ (by decide +kernel)) ggX7_back_X7_turns
set_option maxRecDepth 20000 in
theorem ggX7_back_X7_lay : GoodIn wsX7_back wsX7_lay := goodIn_r _ [31, 20, 2, 3, 21, 22, 7, 23, 32, 33, 34, 35, 36, 37, 38, 39, 40, 41, 42, 43, 44, 45, 46, 47, 48, 49, 50, 51, 52, 53, 54, 55, 56, 57, 58] (by decide +kernel) (by decide +kernel)
set_option maxRecDepth 20000 in
theorem gX7_back_X7_lay : GoodIn wsX7_back (wsV RX7 109 RX7 yX7_lay wsX7_lay) := goodIn_app (goodIn_of _ (by decide +kernel)) ggX7_back_X7_lay
theorem dX7_back_0 : decode cX7_back 0 = .ok (.aload_n 0, 1) := by decide +kernel
theorem dX7_back_1 : decode cX7_back 1 = .ok (.iconst 0, 1) := by decide +kernel
theorem dX7_back_2 : decode cX7_back 2 = .ok (.putfield 80, 3) := by decide +kernel
theorem dX7_back_5 : decode cX7_back 5 = .ok (.aload_n 0, 1) := by decide +kernel
theorem dX7_back_6 : decode cX7_back 6 = .ok (.iload_n 1, 1) := by decide +kernel
theorem dX7_back_7 : decode cX7_back 7 = .ok (.invokevirtual 120, 3) := by decide +kernel
theorem dX7_back_10 : decode cX7_back 10 = .ok (.ifCond .eq 10, 3) := by decide +kernel
theorem dX7_back_13 : decode cX7_back 13 = .ok (.iload_n 2, 1) := by decide +kernel
theorem dX7_back_14 : decode cX7_back 14 = .ok (.invokestatic 94, 3) := by decide +kernel
theorem dX7_back_17 : decode cX7_back 17 = .ok (.ifCond .ne 5, 3) := by decide +kernel
theorem dX7_back_20 : decode cX7_back 20 = .ok (.iconst (-1), 1) := by decide +kernel
theorem dX7_back_21 : decode cX7_back 21 = .ok (.ireturn, 1) := by decide +kernel
theorem dX7_back_22 : decode cX7_back 22 = .ok (.iconst 1, 1) := by decide +kernel
theorem dX7_back_23 : decode cX7_back 23 = .ok (.istore_n 3, 1) := by decide +kernel
theorem dX7_back_24 : decode cX7_back 24 = .ok (.iload_n 3, 1) := by decide +kernel
theorem dX7_back_25 : decode cX7_back 25 = .ok (.aload_n 0, 1) := by decide +kernel
theorem dX7_back_26 : decode cX7_back 26 = .ok (.getfield 13, 3) := by decide +kernel
theorem dX7_back_29 : decode cX7_back 29 = .ok (.iload_n 1, 1) := by decide +kernel
theorem dX7_back_30 : decode cX7_back 30 = .ok (.iaload, 1) := by decide +kernel
theorem dX7_back_31 : decode cX7_back 31 = .ok (.invokestatic 105, 3) := by decide +kernel
theorem dX7_back_34 : decode cX7_back 34 = .ok (.if_icmp .gt 67, 3) := by decide +kernel
theorem dX7_back_37 : decode cX7_back 37 = .ok (.iconst 0, 1) := by decide +kernel
theorem dX7_back_38 : decode cX7_back 38 = .ok (.istore 4, 2) := by decide +kernel
theorem dX7_back_40 : decode cX7_back 40 = .ok (.iload 4, 2) := by decide +kernel
theorem dX7_back_42 : decode cX7_back 42 = .ok (.aload_n 0, 1) := by decide +kernel
theorem dX7_back_43 : decode cX7_back 43 = .ok (.getfield 17, 3) := by decide +kernel
theorem dX7_back_46 : decode cX7_back 46 = .ok (.iload_n 1, 1) := by decide +kernel
theorem dX7_back_47 : decode cX7_back 47 = .ok (.iaload, 1) := by decide +kernel
theorem dX7_back_48 : decode cX7_back 48 = .ok (.iload_n 3, 1) := by decide +kernel
theorem dX7_back_49 : decode cX7_back 49 = .ok (.iadd, 1) := by decide +kernel
theorem dX7_back_50 : decode cX7_back 50 = .ok (.iconst 1, 1) := by decide +kernel
theorem dX7_back_51 : decode cX7_back 51 = .ok (.isub, 1) := by decide +kernel
theorem dX7_back_52 : decode cX7_back 52 = .ok (.if_icmp .ge 43, 3) := by decide +kernel
theorem dX7_back_55 : decode cX7_back 55 = .ok (.aload_n 0, 1) := by decide +kernel
theorem dX7_back_56 : decode cX7_back 56 = .ok (.iload_n 1, 1) := by decide +kernel
theorem dX7_back_57 : decode cX7_back 57 = .ok (.iload_n 3, 1) := by decide +kernel
theorem dX7_back_58 : decode cX7_back 58 = .ok (.iload 4, 2) := by decide +kernel
theorem dX7_back_60 : decode cX7_back 60 = .ok (.invokevirtual 176, 3) := by decide +kernel
theorem dX7_back_63 : decode cX7_back 63 = .ok (.ifCond .ne 6, 3) := by decide +kernel
theorem dX7_back_66 : decode cX7_back 66 = .ok (.goto 23, 3) := by decide +kernel
theorem dX7_back_69 : decode cX7_back 69 = .ok (.aload_n 0, 1) := by decide +kernel
theorem dX7_back_70 : decode cX7_back 70 = .ok (.iload_n 2, 1) := by decide +kernel
theorem dX7_back_71 : decode cX7_back 71 = .ok (.aload_n 0, 1) := by decide +kernel
theorem dX7_back_72 : decode cX7_back 72 = .ok (.getfield 13, 3) := by decide +kernel
theorem dX7_back_75 : decode cX7_back 75 = .ok (.iload_n 1, 1) := by decide +kernel
theorem dX7_back_76 : decode cX7_back 76 = .ok (.iaload, 1) := by decide +kernel
theorem dX7_back_77 : decode cX7_back 77 = .ok (.iload_n 3, 1) := by decide +kernel
theorem dX7_back_78 : decode cX7_back 78 = .ok (.invokevirtual 109, 3) := by decide +kernel
theorem dX7_back_81 : decode cX7_back 81 = .ok (.bipush 10, 2) := by decide +kernel
theorem dX7_back_83 : decode cX7_back 83 = .ok (.iload_n 3, 1) := by decide +kernel
theorem dX7_back_84 : decode cX7_back 84 = .ok (.imul, 1) := by decide +kernel
theorem dX7_back_85 : decode cX7_back 85 = .ok (.iload 4, 2) := by decide +kernel
theorem dX7_back_87 : decode cX7_back 87 = .ok (.iadd, 1) := by decide +kernel
theorem dX7_back_88 : decode cX7_back 88 = .ok (.ireturn, 1) := by decide +kernel
theorem dX7_back_89 : decode cX7_back 89 = .ok (.iinc 4 1, 3) := by decide +kernel
theorem dX7_back_92 : decode cX7_back 92 = .ok (.goto (-52), 3) := by decide +kernel
theorem dX7_back_95 : decode cX7_back 95 = .ok (.iinc 3 1, 3) := by decide +kernel
theorem dX7_back_98 : decode cX7_back 98 = .ok (.goto (-74), 3) := by decide +kernel
theorem dX7_back_101 : decode cX7_back 101 = .ok (.iconst 0, 1) := by decide +kernel
theorem dX7_back_102 : decode cX7_back 102 = .ok (.ireturn, 1) := by decide +kernel
theorem dX7_codeOf_0 : decode cX7_codeOf 0 = .ok (.lconst 0, 1) := by decide +kernel
theorem dX7_codeOf_1 : decode cX7_codeOf 1 = .ok (.lstore_n 3, 1) := by decide +kernel
theorem dX7_codeOf_2 : decode cX7_codeOf 2 = .ok (.iconst 0, 1) := by decide +kernel
theorem dX7_codeOf_3 : decode cX7_codeOf 3 = .ok (.istore 5, 2) := by decide +kernel
theorem dX7_codeOf_5 : decode cX7_codeOf 5 = .ok (.iload 5, 2) := by decide +kernel
theorem dX7_codeOf_7 : decode cX7_codeOf 7 = .ok (.iload_n 2, 1) := by decide +kernel
theorem dX7_codeOf_8 : decode cX7_codeOf 8 = .ok (.if_icmp .ge 28, 3) := by decide +kernel
theorem dX7_codeOf_11 : decode cX7_codeOf 11 = .ok (.aload_n 0, 1) := by decide +kernel
theorem dX7_codeOf_12 : decode cX7_codeOf 12 = .ok (.getfield 13, 3) := by decide +kernel
theorem dX7_codeOf_15 : decode cX7_codeOf 15 = .ok (.iload_n 1, 1) := by decide +kernel
theorem dX7_codeOf_16 : decode cX7_codeOf 16 = .ok (.iaload, 1) := by decide +kernel
theorem dX7_codeOf_17 : decode cX7_codeOf 17 = .ok (.i2l, 1) := by decide +kernel
theorem dX7_codeOf_18 : decode cX7_codeOf 18 = .ok (.lload_n 3, 1) := by decide +kernel
theorem dX7_codeOf_19 : decode cX7_codeOf 19 = .ok (.lmul, 1) := by decide +kernel
theorem dX7_codeOf_20 : decode cX7_codeOf 20 = .ok (.aload_n 0, 1) := by decide +kernel
theorem dX7_codeOf_21 : decode cX7_codeOf 21 = .ok (.getfield 26, 3) := by decide +kernel
theorem dX7_codeOf_24 : decode cX7_codeOf 24 = .ok (.iload 5, 2) := by decide +kernel
theorem dX7_codeOf_26 : decode cX7_codeOf 26 = .ok (.iaload, 1) := by decide +kernel
theorem dX7_codeOf_27 : decode cX7_codeOf 27 = .ok (.i2l, 1) := by decide +kernel
theorem dX7_codeOf_28 : decode cX7_codeOf 28 = .ok (.ladd, 1) := by decide +kernel
theorem dX7_codeOf_29 : decode cX7_codeOf 29 = .ok (.lstore_n 3, 1) := by decide +kernel
theorem dX7_codeOf_30 : decode cX7_codeOf 30 = .ok (.iinc 5 1, 3) := by decide +kernel
theorem dX7_codeOf_33 : decode cX7_codeOf 33 = .ok (.goto (-28), 3) := by decide +kernel
theorem dX7_codeOf_36 : decode cX7_codeOf 36 = .ok (.lload_n 3, 1) := by decide +kernel
theorem dX7_codeOf_37 : decode cX7_codeOf 37 = .ok (.lreturn, 1) := by decide +kernel
set_option maxRecDepth 20000 in
theorem ggX7_height_X7_taken : GoodIn wsX7_height wsX7_taken := goodIn_r _ [13, 14, 4, 52, 53, 54, 55, 56, 57, 58, 59, 60, 61, 62, 63, 64, 65, 66, 67, 68, 69, 70, 71, 72, 73, 74, 75, 76, 77, 78] (by decide +kernel) (by decide +kernel)
set_option maxRecDepth 20000 in
theorem gX7_height_X7_taken : GoodIn wsX7_height (wsV RX7 102 RX7 yX7_taken wsX7_taken) := goodIn_app (goodIn_of _ (by decide +kernel)) ggX7_height_X7_taken
set_option maxRecDepth 20000 in
theorem ggX7_height_X7_has : GoodIn wsX7_height wsX7_has := goodIn_r _ [18, 19, 20, 21, 12, 22, 52, 53, 54, 55, 56, 57, 58, 59, 60, 61, 62, 63, 64, 65, 66, 67, 68, 69, 70, 71, 72, 73, 74, 75, 76, 77, 78] (by decide +kernel) (by decide +kernel)
set_option maxRecDepth 20000 in
theorem gX7_height_X7_has : GoodIn wsX7_height (wsV RX7 120 RX7 yX7_has wsX7_has) := goodIn_app (goodIn_of _ (by decide +kernel)) ggX7_height_X7_has
set_option maxRecDepth 20000 in
theorem ggX7_height_X7_areStates : GoodIn wsX7_height wsX7_areStates := goodIn_r _ [26, 4, 27, 19, 52, 53, 54, 55, 56, 57, 58, 59, 60, 61, 62, 63, 64, 65, 66, 67, 68, 69, 70, 71, 72, 73, 74, 75, 76, 77, 78] (by decide +kernel) (by decide +kernel)
set_option maxRecDepth 20000 in
theorem gX7_height_X7_areStates : GoodIn wsX7_height (wsV RX7 130 RX7 yX7_areStates wsX7_areStates) := goodIn_app (goodIn_of _ (by decide +kernel)) ggX7_height_X7_areStates
set_option maxRecDepth 20000 in
theorem ggX7_height_X7_takeCells : GoodIn wsX7_height wsX7_takeCells := goodIn_r _ [31, 4, 32, 27, 52, 53, 54, 55, 56, 57, 58, 59, 60, 61, 62, 63, 64, 65, 66, 67, 68, 69, 70, 71, 72, 73, 74, 75, 76, 77, 78] (by decide +kernel) (by decide +kernel)
set_option maxRecDepth 20000 in
theorem gX7_height_X7_takeCells : GoodIn wsX7_height (wsV RX7 134 RX7 yX7_takeCells wsX7_takeCells) := goodIn_app (goodIn_of _ (by decide +kernel)) ggX7_height_X7_takeCells
set_option maxRecDepth 20000 in
theorem ggX7_height_X7_codeOf : GoodIn wsX7_height wsX7_codeOf := goodIn_r _ [36, 19, 32, 52, 53, 54, 55, 56, 57, 58, 59, 60, 61, 62, 63, 64, 65, 66, 67, 68, 69, 70, 71, 72, 73, 74, 75, 76, 77, 78] (by decide +kernel) (by decide +kernel)
set_option maxRecDepth 20000 in
theorem gX7_height_X7_codeOf : GoodIn wsX7_height (wsV RX7 179 RX7 yX7_codeOf wsX7_codeOf) := goodIn_app (goodIn_of _ (by decide +kernel)) ggX7_height_X7_codeOf
set_option maxRecDepth 20000 in
theorem ggX7_height_X7_step : GoodIn wsX7_height wsX7_step := goodIn_r _ [40, 41, 32, 42, 43, 44, 12, 45, 46, 19, 47, 48, 49, 50, 51, 52, 53, 54, 55, 56, 57, 58, 59, 60, 61, 62, 63, 64, 65, 66, 67, 68, 69, 70, 71, 72, 73, 74, 75, 76, 77, 78] (by decide +kernel) (by decide +kernel)
set_option maxRecDepth 20000 in
theorem gX7_height_X7_step : GoodIn wsX7_height (wsV RX7 137 RX7 yX7_step wsX7_step) := goodIn_app (goodIn_of _ (by decide +kernel)) ggX7_height_X7_step
theorem dX7_height_0 : decode cX7_height 0 = .ok (.aload_n 0, 1) := by decide +kernel
theorem dX7_height_1 : decode cX7_height 1 = .ok (.iconst 0, 1) := by decide +kernel
theorem dX7_height_2 : decode cX7_height 2 = .ok (.putfield 80, 3) := by decide +kernel
theorem dX7_height_5 : decode cX7_height 5 = .ok (.aload_n 0, 1) := by decide +kernel
theorem dX7_height_6 : decode cX7_height 6 = .ok (.invokevirtual 102, 3) := by decide +kernel
theorem dX7_height_9 : decode cX7_height 9 = .ok (.aload_n 0, 1) := by decide +kernel
theorem dX7_height_10 : decode cX7_height 10 = .ok (.iload_n 1, 1) := by decide +kernel
theorem dX7_height_11 : decode cX7_height 11 = .ok (.invokevirtual 120, 3) := by decide +kernel
theorem dX7_height_14 : decode cX7_height 14 = .ok (.ifCond .eq 14, 3) := by decide +kernel
theorem dX7_height_17 : decode cX7_height 17 = .ok (.aload_n 0, 1) := by decide +kernel
theorem dX7_height_18 : decode cX7_height 18 = .ok (.iload_n 1, 1) := by decide +kernel
theorem dX7_height_19 : decode cX7_height 19 = .ok (.iconst 1, 1) := by decide +kernel
theorem dX7_height_20 : decode cX7_height 20 = .ok (.bipush 20, 2) := by decide +kernel
theorem dX7_height_22 : decode cX7_height 22 = .ok (.invokevirtual 130, 3) := by decide +kernel
theorem dX7_height_25 : decode cX7_height 25 = .ok (.ifCond .ne 5, 3) := by decide +kernel
theorem dX7_height_28 : decode cX7_height 28 = .ok (.iconst (-1), 1) := by decide +kernel
theorem dX7_height_29 : decode cX7_height 29 = .ok (.ireturn, 1) := by decide +kernel
theorem dX7_height_30 : decode cX7_height 30 = .ok (.aload_n 0, 1) := by decide +kernel
theorem dX7_height_31 : decode cX7_height 31 = .ok (.invokevirtual 134, 3) := by decide +kernel
theorem dX7_height_34 : decode cX7_height 34 = .ok (.iconst 0, 1) := by decide +kernel
theorem dX7_height_35 : decode cX7_height 35 = .ok (.istore_n 2, 1) := by decide +kernel
theorem dX7_height_36 : decode cX7_height 36 = .ok (.iload_n 2, 1) := by decide +kernel
theorem dX7_height_37 : decode cX7_height 37 = .ok (.ldc 61, 2) := by decide +kernel
theorem dX7_height_39 : decode cX7_height 39 = .ok (.if_icmp .ge 16, 3) := by decide +kernel
theorem dX7_height_42 : decode cX7_height 42 = .ok (.aload_n 0, 1) := by decide +kernel
theorem dX7_height_43 : decode cX7_height 43 = .ok (.getfield 62, 3) := by decide +kernel
theorem dX7_height_46 : decode cX7_height 46 = .ok (.iload_n 2, 1) := by decide +kernel
theorem dX7_height_47 : decode cX7_height 47 = .ok (.iconst (-1), 1) := by decide +kernel
theorem dX7_height_48 : decode cX7_height 48 = .ok (.iastore, 1) := by decide +kernel
theorem dX7_height_49 : decode cX7_height 49 = .ok (.iinc 2 1, 3) := by decide +kernel
theorem dX7_height_52 : decode cX7_height 52 = .ok (.goto (-16), 3) := by decide +kernel
theorem dX7_height_55 : decode cX7_height 55 = .ok (.iconst 0, 1) := by decide +kernel
theorem dX7_height_56 : decode cX7_height 56 = .ok (.istore_n 2, 1) := by decide +kernel
theorem dX7_height_57 : decode cX7_height 57 = .ok (.iload_n 2, 1) := by decide +kernel
theorem dX7_height_58 : decode cX7_height 58 = .ok (.sipush 20000, 3) := by decide +kernel
theorem dX7_height_61 : decode cX7_height 61 = .ok (.if_icmp .gt 128, 3) := by decide +kernel
theorem dX7_height_64 : decode cX7_height 64 = .ok (.aload_n 0, 1) := by decide +kernel
theorem dX7_height_65 : decode cX7_height 65 = .ok (.iload_n 1, 1) := by decide +kernel
theorem dX7_height_66 : decode cX7_height 66 = .ok (.aload_n 0, 1) := by decide +kernel
theorem dX7_height_67 : decode cX7_height 67 = .ok (.getfield 91, 3) := by decide +kernel
theorem dX7_height_70 : decode cX7_height 70 = .ok (.invokevirtual 179, 3) := by decide +kernel
theorem dX7_height_73 : decode cX7_height 73 = .ok (.lstore_n 3, 1) := by decide +kernel
theorem dX7_height_74 : decode cX7_height 74 = .ok (.lload_n 3, 1) := by decide +kernel
theorem dX7_height_75 : decode cX7_height 75 = .ok (.ldc2_w 183, 3) := by decide +kernel
theorem dX7_height_78 : decode cX7_height 78 = .ok (.lmul, 1) := by decide +kernel
theorem dX7_height_79 : decode cX7_height 79 = .ok (.bipush 20, 2) := by decide +kernel
theorem dX7_height_81 : decode cX7_height 81 = .ok (.lshr, 1) := by decide +kernel
theorem dX7_height_82 : decode cX7_height 82 = .ok (.ldc2_w 185, 3) := by decide +kernel
theorem dX7_height_85 : decode cX7_height 85 = .ok (.land, 1) := by decide +kernel
theorem dX7_height_86 : decode cX7_height 86 = .ok (.l2i, 1) := by decide +kernel
theorem dX7_height_87 : decode cX7_height 87 = .ok (.istore 5, 2) := by decide +kernel
theorem dX7_height_89 : decode cX7_height 89 = .ok (.aload_n 0, 1) := by decide +kernel
theorem dX7_height_90 : decode cX7_height 90 = .ok (.getfield 62, 3) := by decide +kernel
theorem dX7_height_93 : decode cX7_height 93 = .ok (.iload 5, 2) := by decide +kernel
theorem dX7_height_95 : decode cX7_height 95 = .ok (.iaload, 1) := by decide +kernel
theorem dX7_height_96 : decode cX7_height 96 = .ok (.ifCond .lt 32, 3) := by decide +kernel
theorem dX7_height_99 : decode cX7_height 99 = .ok (.aload_n 0, 1) := by decide +kernel
theorem dX7_height_100 : decode cX7_height 100 = .ok (.getfield 58, 3) := by decide +kernel
theorem dX7_height_103 : decode cX7_height 103 = .ok (.aload_n 0, 1) := by decide +kernel
theorem dX7_height_104 : decode cX7_height 104 = .ok (.getfield 62, 3) := by decide +kernel
theorem dX7_height_107 : decode cX7_height 107 = .ok (.iload 5, 2) := by decide +kernel
theorem dX7_height_109 : decode cX7_height 109 = .ok (.iaload, 1) := by decide +kernel
theorem dX7_height_110 : decode cX7_height 110 = .ok (.laload, 1) := by decide +kernel
theorem dX7_height_111 : decode cX7_height 111 = .ok (.lload_n 3, 1) := by decide +kernel
theorem dX7_height_112 : decode cX7_height 112 = .ok (.lcmp, 1) := by decide +kernel
theorem dX7_height_113 : decode cX7_height 113 = .ok (.ifCond .eq 15, 3) := by decide +kernel
theorem dX7_height_116 : decode cX7_height 116 = .ok (.iload 5, 2) := by decide +kernel
theorem dX7_height_118 : decode cX7_height 118 = .ok (.iconst 1, 1) := by decide +kernel
theorem dX7_height_119 : decode cX7_height 119 = .ok (.iadd, 1) := by decide +kernel
theorem dX7_height_120 : decode cX7_height 120 = .ok (.ldc 61, 2) := by decide +kernel
theorem dX7_height_122 : decode cX7_height 122 = .ok (.irem, 1) := by decide +kernel
theorem dX7_height_123 : decode cX7_height 123 = .ok (.istore 5, 2) := by decide +kernel
theorem dX7_height_125 : decode cX7_height 125 = .ok (.goto (-36), 3) := by decide +kernel
theorem dX7_height_128 : decode cX7_height 128 = .ok (.aload_n 0, 1) := by decide +kernel
theorem dX7_height_129 : decode cX7_height 129 = .ok (.getfield 62, 3) := by decide +kernel
theorem dX7_height_132 : decode cX7_height 132 = .ok (.iload 5, 2) := by decide +kernel
theorem dX7_height_134 : decode cX7_height 134 = .ok (.iaload, 1) := by decide +kernel
theorem dX7_height_135 : decode cX7_height 135 = .ok (.ifCond .lt 24, 3) := by decide +kernel
theorem dX7_height_138 : decode cX7_height 138 = .ok (.aload_n 0, 1) := by decide +kernel
theorem dX7_height_139 : decode cX7_height 139 = .ok (.iload_n 2, 1) := by decide +kernel
theorem dX7_height_140 : decode cX7_height 140 = .ok (.aload_n 0, 1) := by decide +kernel
theorem dX7_height_141 : decode cX7_height 141 = .ok (.getfield 62, 3) := by decide +kernel
theorem dX7_height_144 : decode cX7_height 144 = .ok (.iload 5, 2) := by decide +kernel
theorem dX7_height_146 : decode cX7_height 146 = .ok (.iaload, 1) := by decide +kernel
theorem dX7_height_147 : decode cX7_height 147 = .ok (.isub, 1) := by decide +kernel
theorem dX7_height_148 : decode cX7_height 148 = .ok (.putfield 187, 3) := by decide +kernel
theorem dX7_height_151 : decode cX7_height 151 = .ok (.aload_n 0, 1) := by decide +kernel
theorem dX7_height_152 : decode cX7_height 152 = .ok (.getfield 62, 3) := by decide +kernel
theorem dX7_height_155 : decode cX7_height 155 = .ok (.iload 5, 2) := by decide +kernel
theorem dX7_height_157 : decode cX7_height 157 = .ok (.iaload, 1) := by decide +kernel
theorem dX7_height_158 : decode cX7_height 158 = .ok (.ireturn, 1) := by decide +kernel
theorem dX7_height_159 : decode cX7_height 159 = .ok (.aload_n 0, 1) := by decide +kernel
theorem dX7_height_160 : decode cX7_height 160 = .ok (.getfield 58, 3) := by decide +kernel
theorem dX7_height_163 : decode cX7_height 163 = .ok (.iload_n 2, 1) := by decide +kernel
theorem dX7_height_164 : decode cX7_height 164 = .ok (.lload_n 3, 1) := by decide +kernel
theorem dX7_height_165 : decode cX7_height 165 = .ok (.lastore, 1) := by decide +kernel
theorem dX7_height_166 : decode cX7_height 166 = .ok (.aload_n 0, 1) := by decide +kernel
theorem dX7_height_167 : decode cX7_height 167 = .ok (.getfield 62, 3) := by decide +kernel
theorem dX7_height_170 : decode cX7_height 170 = .ok (.iload 5, 2) := by decide +kernel
theorem dX7_height_172 : decode cX7_height 172 = .ok (.iload_n 2, 1) := by decide +kernel
theorem dX7_height_173 : decode cX7_height 173 = .ok (.iastore, 1) := by decide +kernel
theorem dX7_height_174 : decode cX7_height 174 = .ok (.aload_n 0, 1) := by decide +kernel
theorem dX7_height_175 : decode cX7_height 175 = .ok (.iload_n 1, 1) := by decide +kernel
theorem dX7_height_176 : decode cX7_height 176 = .ok (.aload_n 0, 1) := by decide +kernel
theorem dX7_height_177 : decode cX7_height 177 = .ok (.getfield 91, 3) := by decide +kernel
theorem dX7_height_180 : decode cX7_height 180 = .ok (.invokevirtual 137, 3) := by decide +kernel
theorem dX7_height_183 : decode cX7_height 183 = .ok (.iinc 2 1, 3) := by decide +kernel
theorem dX7_height_186 : decode cX7_height 186 = .ok (.goto (-129), 3) := by decide +kernel
theorem dX7_height_189 : decode cX7_height 189 = .ok (.iconst (-1), 1) := by decide +kernel
theorem dX7_height_190 : decode cX7_height 190 = .ok (.ireturn, 1) := by decide +kernel
theorem dX7_round_0 : decode cX7_round 0 = .ok (.aload_n 0, 1) := by decide +kernel
theorem dX7_round_1 : decode cX7_round 1 = .ok (.iconst 0, 1) := by decide +kernel
theorem dX7_round_2 : decode cX7_round 2 = .ok (.putfield 80, 3) := by decide +kernel
theorem dX7_round_5 : decode cX7_round 5 = .ok (.aload_n 0, 1) := by decide +kernel
theorem dX7_round_6 : decode cX7_round 6 = .ok (.getfield 187, 3) := by decide +kernel
theorem dX7_round_9 : decode cX7_round 9 = .ok (.ireturn, 1) := by decide +kernel
set_option maxRecDepth 20000 in
theorem ggX7_all_X7_has : GoodIn wsX7_all wsX7_has := goodIn_r _ [12, 2, 13, 14, 11, 15, 38, 39, 40, 41, 42, 43, 44, 45, 46, 47, 48, 49, 50, 51, 52, 53, 54, 55, 56, 57, 58, 59, 60, 61, 62, 63, 64] (by decide +kernel) (by decide +kernel)
set_option maxRecDepth 20000 in
theorem gX7_all_X7_has : GoodIn wsX7_all (wsV RX7 120 RX7 yX7_has wsX7_has) := goodIn_app (goodIn_of _ (by decide +kernel)) ggX7_all_X7_has
set_option maxRecDepth 20000 in
theorem ggX7_all_X7_power : GoodIn wsX7_all wsX7_power := goodIn_r _ [18] (by decide +kernel) (by decide +kernel)
set_option maxRecDepth 20000 in
theorem gX7_all_X7_power : GoodIn wsX7_all (va_wsS RX7 98 yX7_power wsX7_power) := goodIn_app (goodIn_of _ (by decide +kernel)) ggX7_all_X7_power
set_option maxRecDepth 20000 in
theorem ggX7_all_X7_step : GoodIn wsX7_all wsX7_step := goodIn_r _ [22, 23, 4, 24, 25, 26, 11, 27, 28, 2, 29, 30, 31, 32, 33, 38, 39, 40, 41, 42, 43, 44, 45, 46, 47, 48, 49, 50, 51, 52, 53, 54, 55, 56, 57, 58, 59, 60, 61, 62, 63, 64] (by decide +kernel) (by decide +kernel)
set_option maxRecDepth 20000 in
theorem gX7_all_X7_step : GoodIn wsX7_all (wsV RX7 137 RX7 yX7_step wsX7_step) := goodIn_app (goodIn_of _ (by decide +kernel)) ggX7_all_X7_step
set_option maxRecDepth 20000 in
theorem ggX7_all_X7_codeOf : GoodIn wsX7_all wsX7_codeOf := goodIn_r _ [37, 2, 4, 38, 39, 40, 41, 42, 43, 44, 45, 46, 47, 48, 49, 50, 51, 52, 53, 54, 55, 56, 57, 58, 59, 60, 61, 62, 63, 64] (by decide +kernel) (by decide +kernel)
set_option maxRecDepth 20000 in
theorem gX7_all_X7_codeOf : GoodIn wsX7_all (wsV RX7 179 RX7 yX7_codeOf wsX7_codeOf) := goodIn_app (goodIn_of _ (by decide +kernel)) ggX7_all_X7_codeOf
theorem dX7_all_0 : decode cX7_all 0 = .ok (.aload_n 0, 1) := by decide +kernel
theorem dX7_all_1 : decode cX7_all 1 = .ok (.iconst 0, 1) := by decide +kernel
theorem dX7_all_2 : decode cX7_all 2 = .ok (.putfield 80, 3) := by decide +kernel
theorem dX7_all_5 : decode cX7_all 5 = .ok (.aload_n 0, 1) := by decide +kernel
theorem dX7_all_6 : decode cX7_all 6 = .ok (.iload_n 1, 1) := by decide +kernel
theorem dX7_all_7 : decode cX7_all 7 = .ok (.invokevirtual 120, 3) := by decide +kernel
theorem dX7_all_10 : decode cX7_all 10 = .ok (.ifCond .eq 23, 3) := by decide +kernel
theorem dX7_all_13 : decode cX7_all 13 = .ok (.iload_n 2, 1) := by decide +kernel
theorem dX7_all_14 : decode cX7_all 14 = .ok (.iconst 1, 1) := by decide +kernel
theorem dX7_all_15 : decode cX7_all 15 = .ok (.if_icmp .lt 18, 3) := by decide +kernel
theorem dX7_all_18 : decode cX7_all 18 = .ok (.iload_n 2, 1) := by decide +kernel
theorem dX7_all_19 : decode cX7_all 19 = .ok (.bipush 12, 2) := by decide +kernel
theorem dX7_all_21 : decode cX7_all 21 = .ok (.if_icmp .gt 12, 3) := by decide +kernel
theorem dX7_all_24 : decode cX7_all 24 = .ok (.iload_n 3, 1) := by decide +kernel
theorem dX7_all_25 : decode cX7_all 25 = .ok (.ifCond .lt 8, 3) := by decide +kernel
theorem dX7_all_28 : decode cX7_all 28 = .ok (.iload_n 3, 1) := by decide +kernel
theorem dX7_all_29 : decode cX7_all 29 = .ok (.iconst 4, 1) := by decide +kernel
theorem dX7_all_30 : decode cX7_all 30 = .ok (.if_icmp .le 5, 3) := by decide +kernel
theorem dX7_all_33 : decode cX7_all 33 = .ok (.iconst (-1), 1) := by decide +kernel
theorem dX7_all_34 : decode cX7_all 34 = .ok (.ireturn, 1) := by decide +kernel
theorem dX7_all_35 : decode cX7_all 35 = .ok (.iconst 1, 1) := by decide +kernel
theorem dX7_all_36 : decode cX7_all 36 = .ok (.istore 4, 2) := by decide +kernel
theorem dX7_all_38 : decode cX7_all 38 = .ok (.iconst 0, 1) := by decide +kernel
theorem dX7_all_39 : decode cX7_all 39 = .ok (.istore 5, 2) := by decide +kernel
theorem dX7_all_41 : decode cX7_all 41 = .ok (.iload 5, 2) := by decide +kernel
theorem dX7_all_43 : decode cX7_all 43 = .ok (.iload_n 2, 1) := by decide +kernel
theorem dX7_all_44 : decode cX7_all 44 = .ok (.if_icmp .ge 28, 3) := by decide +kernel
theorem dX7_all_47 : decode cX7_all 47 = .ok (.iload 4, 2) := by decide +kernel
theorem dX7_all_49 : decode cX7_all 49 = .ok (.sipush 4096, 3) := by decide +kernel
theorem dX7_all_52 : decode cX7_all 52 = .ok (.if_icmp .gt 20, 3) := by decide +kernel
theorem dX7_all_55 : decode cX7_all 55 = .ok (.iload 4, 2) := by decide +kernel
theorem dX7_all_57 : decode cX7_all 57 = .ok (.aload_n 0, 1) := by decide +kernel
theorem dX7_all_58 : decode cX7_all 58 = .ok (.getfield 13, 3) := by decide +kernel
theorem dX7_all_61 : decode cX7_all 61 = .ok (.iload_n 1, 1) := by decide +kernel
theorem dX7_all_62 : decode cX7_all 62 = .ok (.iaload, 1) := by decide +kernel
theorem dX7_all_63 : decode cX7_all 63 = .ok (.imul, 1) := by decide +kernel
theorem dX7_all_64 : decode cX7_all 64 = .ok (.istore 4, 2) := by decide +kernel
theorem dX7_all_66 : decode cX7_all 66 = .ok (.iinc 5 1, 3) := by decide +kernel
theorem dX7_all_69 : decode cX7_all 69 = .ok (.goto (-28), 3) := by decide +kernel
theorem dX7_all_72 : decode cX7_all 72 = .ok (.iload 4, 2) := by decide +kernel
theorem dX7_all_74 : decode cX7_all 74 = .ok (.sipush 4096, 3) := by decide +kernel
theorem dX7_all_77 : decode cX7_all 77 = .ok (.if_icmp .le 5, 3) := by decide +kernel
theorem dX7_all_80 : decode cX7_all 80 = .ok (.iconst (-1), 1) := by decide +kernel
theorem dX7_all_81 : decode cX7_all 81 = .ok (.ireturn, 1) := by decide +kernel
theorem dX7_all_82 : decode cX7_all 82 = .ok (.aload_n 0, 1) := by decide +kernel
theorem dX7_all_83 : decode cX7_all 83 = .ok (.getfield 13, 3) := by decide +kernel
theorem dX7_all_86 : decode cX7_all 86 = .ok (.iload_n 1, 1) := by decide +kernel
theorem dX7_all_87 : decode cX7_all 87 = .ok (.iaload, 1) := by decide +kernel
theorem dX7_all_88 : decode cX7_all 88 = .ok (.iload_n 2, 1) := by decide +kernel
theorem dX7_all_89 : decode cX7_all 89 = .ok (.invokestatic 98, 3) := by decide +kernel
theorem dX7_all_92 : decode cX7_all 92 = .ok (.istore 5, 2) := by decide +kernel
theorem dX7_all_94 : decode cX7_all 94 = .ok (.iconst 0, 1) := by decide +kernel
theorem dX7_all_95 : decode cX7_all 95 = .ok (.istore 6, 2) := by decide +kernel
theorem dX7_all_97 : decode cX7_all 97 = .ok (.iload 6, 2) := by decide +kernel
theorem dX7_all_99 : decode cX7_all 99 = .ok (.iload 5, 2) := by decide +kernel
theorem dX7_all_101 : decode cX7_all 101 = .ok (.if_icmp .ge 17, 3) := by decide +kernel
theorem dX7_all_104 : decode cX7_all 104 = .ok (.aload_n 0, 1) := by decide +kernel
theorem dX7_all_105 : decode cX7_all 105 = .ok (.getfield 68, 3) := by decide +kernel
theorem dX7_all_108 : decode cX7_all 108 = .ok (.iload 6, 2) := by decide +kernel
theorem dX7_all_110 : decode cX7_all 110 = .ok (.iconst 0, 1) := by decide +kernel
theorem dX7_all_111 : decode cX7_all 111 = .ok (.iastore, 1) := by decide +kernel
theorem dX7_all_112 : decode cX7_all 112 = .ok (.iinc 6 1, 3) := by decide +kernel
theorem dX7_all_115 : decode cX7_all 115 = .ok (.goto (-18), 3) := by decide +kernel
theorem dX7_all_118 : decode cX7_all 118 = .ok (.iconst 0, 1) := by decide +kernel
theorem dX7_all_119 : decode cX7_all 119 = .ok (.istore 6, 2) := by decide +kernel
theorem dX7_all_121 : decode cX7_all 121 = .ok (.iload 6, 2) := by decide +kernel
theorem dX7_all_123 : decode cX7_all 123 = .ok (.iload 5, 2) := by decide +kernel
theorem dX7_all_125 : decode cX7_all 125 = .ok (.if_icmp .ge 92, 3) := by decide +kernel
theorem dX7_all_128 : decode cX7_all 128 = .ok (.iload 6, 2) := by decide +kernel
theorem dX7_all_130 : decode cX7_all 130 = .ok (.istore 7, 2) := by decide +kernel
theorem dX7_all_132 : decode cX7_all 132 = .ok (.iload_n 2, 1) := by decide +kernel
theorem dX7_all_133 : decode cX7_all 133 = .ok (.iconst 1, 1) := by decide +kernel
theorem dX7_all_134 : decode cX7_all 134 = .ok (.isub, 1) := by decide +kernel
theorem dX7_all_135 : decode cX7_all 135 = .ok (.istore 8, 2) := by decide +kernel
theorem dX7_all_137 : decode cX7_all 137 = .ok (.iload 8, 2) := by decide +kernel
theorem dX7_all_139 : decode cX7_all 139 = .ok (.ifCond .lt 36, 3) := by decide +kernel
theorem dX7_all_142 : decode cX7_all 142 = .ok (.aload_n 0, 1) := by decide +kernel
theorem dX7_all_143 : decode cX7_all 143 = .ok (.getfield 26, 3) := by decide +kernel
theorem dX7_all_146 : decode cX7_all 146 = .ok (.iload 8, 2) := by decide +kernel
theorem dX7_all_148 : decode cX7_all 148 = .ok (.iload 7, 2) := by decide +kernel
theorem dX7_all_150 : decode cX7_all 150 = .ok (.aload_n 0, 1) := by decide +kernel
theorem dX7_all_151 : decode cX7_all 151 = .ok (.getfield 13, 3) := by decide +kernel
theorem dX7_all_154 : decode cX7_all 154 = .ok (.iload_n 1, 1) := by decide +kernel
theorem dX7_all_155 : decode cX7_all 155 = .ok (.iaload, 1) := by decide +kernel
theorem dX7_all_156 : decode cX7_all 156 = .ok (.irem, 1) := by decide +kernel
theorem dX7_all_157 : decode cX7_all 157 = .ok (.iastore, 1) := by decide +kernel
theorem dX7_all_158 : decode cX7_all 158 = .ok (.iload 7, 2) := by decide +kernel
theorem dX7_all_160 : decode cX7_all 160 = .ok (.aload_n 0, 1) := by decide +kernel
theorem dX7_all_161 : decode cX7_all 161 = .ok (.getfield 13, 3) := by decide +kernel
theorem dX7_all_164 : decode cX7_all 164 = .ok (.iload_n 1, 1) := by decide +kernel
theorem dX7_all_165 : decode cX7_all 165 = .ok (.iaload, 1) := by decide +kernel
theorem dX7_all_166 : decode cX7_all 166 = .ok (.idiv, 1) := by decide +kernel
theorem dX7_all_167 : decode cX7_all 167 = .ok (.istore 7, 2) := by decide +kernel
theorem dX7_all_169 : decode cX7_all 169 = .ok (.iinc 8 (-1), 3) := by decide +kernel
theorem dX7_all_172 : decode cX7_all 172 = .ok (.goto (-35), 3) := by decide +kernel
theorem dX7_all_175 : decode cX7_all 175 = .ok (.aload_n 0, 1) := by decide +kernel
theorem dX7_all_176 : decode cX7_all 176 = .ok (.iload_n 1, 1) := by decide +kernel
theorem dX7_all_177 : decode cX7_all 177 = .ok (.iload_n 2, 1) := by decide +kernel
theorem dX7_all_178 : decode cX7_all 178 = .ok (.invokevirtual 137, 3) := by decide +kernel
theorem dX7_all_181 : decode cX7_all 181 = .ok (.aload_n 0, 1) := by decide +kernel
theorem dX7_all_182 : decode cX7_all 182 = .ok (.getfield 65, 3) := by decide +kernel
theorem dX7_all_185 : decode cX7_all 185 = .ok (.iload 6, 2) := by decide +kernel
theorem dX7_all_187 : decode cX7_all 187 = .ok (.aload_n 0, 1) := by decide +kernel
theorem dX7_all_188 : decode cX7_all 188 = .ok (.iload_n 1, 1) := by decide +kernel
theorem dX7_all_189 : decode cX7_all 189 = .ok (.iload_n 2, 1) := by decide +kernel
theorem dX7_all_190 : decode cX7_all 190 = .ok (.invokevirtual 179, 3) := by decide +kernel
theorem dX7_all_193 : decode cX7_all 193 = .ok (.l2i, 1) := by decide +kernel
theorem dX7_all_194 : decode cX7_all 194 = .ok (.iastore, 1) := by decide +kernel
theorem dX7_all_195 : decode cX7_all 195 = .ok (.aload_n 0, 1) := by decide +kernel
theorem dX7_all_196 : decode cX7_all 196 = .ok (.getfield 68, 3) := by decide +kernel
theorem dX7_all_199 : decode cX7_all 199 = .ok (.aload_n 0, 1) := by decide +kernel
theorem dX7_all_200 : decode cX7_all 200 = .ok (.getfield 65, 3) := by decide +kernel
theorem dX7_all_203 : decode cX7_all 203 = .ok (.iload 6, 2) := by decide +kernel
theorem dX7_all_205 : decode cX7_all 205 = .ok (.iaload, 1) := by decide +kernel
theorem dX7_all_206 : decode cX7_all 206 = .ok (.dup2, 1) := by decide +kernel
theorem dX7_all_207 : decode cX7_all 207 = .ok (.iaload, 1) := by decide +kernel
theorem dX7_all_208 : decode cX7_all 208 = .ok (.iconst 1, 1) := by decide +kernel
theorem dX7_all_209 : decode cX7_all 209 = .ok (.iadd, 1) := by decide +kernel
theorem dX7_all_210 : decode cX7_all 210 = .ok (.iastore, 1) := by decide +kernel
theorem dX7_all_211 : decode cX7_all 211 = .ok (.iinc 6 1, 3) := by decide +kernel
theorem dX7_all_214 : decode cX7_all 214 = .ok (.goto (-93), 3) := by decide +kernel
theorem dX7_all_217 : decode cX7_all 217 = .ok (.iconst 0, 1) := by decide +kernel
theorem dX7_all_218 : decode cX7_all 218 = .ok (.istore 6, 2) := by decide +kernel
theorem dX7_all_220 : decode cX7_all 220 = .ok (.iconst 0, 1) := by decide +kernel
theorem dX7_all_221 : decode cX7_all 221 = .ok (.istore 7, 2) := by decide +kernel
theorem dX7_all_223 : decode cX7_all 223 = .ok (.iload 7, 2) := by decide +kernel
theorem dX7_all_225 : decode cX7_all 225 = .ok (.iload 5, 2) := by decide +kernel
theorem dX7_all_227 : decode cX7_all 227 = .ok (.if_icmp .ge 29, 3) := by decide +kernel
theorem dX7_all_230 : decode cX7_all 230 = .ok (.iload 6, 2) := by decide +kernel
theorem dX7_all_232 : decode cX7_all 232 = .ok (.aload_n 0, 1) := by decide +kernel
theorem dX7_all_233 : decode cX7_all 233 = .ok (.getfield 68, 3) := by decide +kernel
theorem dX7_all_236 : decode cX7_all 236 = .ok (.iload 7, 2) := by decide +kernel
theorem dX7_all_238 : decode cX7_all 238 = .ok (.iaload, 1) := by decide +kernel
theorem dX7_all_239 : decode cX7_all 239 = .ok (.ifCond .ne 7, 3) := by decide +kernel
theorem dX7_all_242 : decode cX7_all 242 = .ok (.iconst 1, 1) := by decide +kernel
theorem dX7_all_243 : decode cX7_all 243 = .ok (.goto 4, 3) := by decide +kernel
theorem dX7_all_246 : decode cX7_all 246 = .ok (.iconst 0, 1) := by decide +kernel
theorem dX7_all_247 : decode cX7_all 247 = .ok (.iadd, 1) := by decide +kernel
theorem dX7_all_248 : decode cX7_all 248 = .ok (.istore 6, 2) := by decide +kernel
theorem dX7_all_250 : decode cX7_all 250 = .ok (.iinc 7 1, 3) := by decide +kernel
theorem dX7_all_253 : decode cX7_all 253 = .ok (.goto (-30), 3) := by decide +kernel
theorem dX7_all_256 : decode cX7_all 256 = .ok (.iload_n 3, 1) := by decide +kernel
theorem dX7_all_257 : decode cX7_all 257 = .ok (.ifCond .ne 6, 3) := by decide +kernel
theorem dX7_all_260 : decode cX7_all 260 = .ok (.iload 6, 2) := by decide +kernel
theorem dX7_all_262 : decode cX7_all 262 = .ok (.ireturn, 1) := by decide +kernel
theorem dX7_all_263 : decode cX7_all 263 = .ok (.iload 5, 2) := by decide +kernel
theorem dX7_all_265 : decode cX7_all 265 = .ok (.istore 7, 2) := by decide +kernel
theorem dX7_all_267 : decode cX7_all 267 = .ok (.iconst 0, 1) := by decide +kernel
theorem dX7_all_268 : decode cX7_all 268 = .ok (.istore 8, 2) := by decide +kernel
theorem dX7_all_270 : decode cX7_all 270 = .ok (.iconst 0, 1) := by decide +kernel
theorem dX7_all_271 : decode cX7_all 271 = .ok (.istore 9, 2) := by decide +kernel
theorem dX7_all_273 : decode cX7_all 273 = .ok (.iload 9, 2) := by decide +kernel
theorem dX7_all_275 : decode cX7_all 275 = .ok (.iload 5, 2) := by decide +kernel
theorem dX7_all_277 : decode cX7_all 277 = .ok (.if_icmp .ge 42, 3) := by decide +kernel
theorem dX7_all_280 : decode cX7_all 280 = .ok (.aload_n 0, 1) := by decide +kernel
theorem dX7_all_281 : decode cX7_all 281 = .ok (.getfield 71, 3) := by decide +kernel
theorem dX7_all_284 : decode cX7_all 284 = .ok (.iload 9, 2) := by decide +kernel
theorem dX7_all_286 : decode cX7_all 286 = .ok (.iconst 0, 1) := by decide +kernel
theorem dX7_all_287 : decode cX7_all 287 = .ok (.iastore, 1) := by decide +kernel
theorem dX7_all_288 : decode cX7_all 288 = .ok (.aload_n 0, 1) := by decide +kernel
theorem dX7_all_289 : decode cX7_all 289 = .ok (.getfield 68, 3) := by decide +kernel
theorem dX7_all_292 : decode cX7_all 292 = .ok (.iload 9, 2) := by decide +kernel
theorem dX7_all_294 : decode cX7_all 294 = .ok (.iaload, 1) := by decide +kernel
theorem dX7_all_295 : decode cX7_all 295 = .ok (.ifCond .le 6, 3) := by decide +kernel
theorem dX7_all_298 : decode cX7_all 298 = .ok (.goto 15, 3) := by decide +kernel
theorem dX7_all_301 : decode cX7_all 301 = .ok (.aload_n 0, 1) := by decide +kernel
theorem dX7_all_302 : decode cX7_all 302 = .ok (.getfield 74, 3) := by decide +kernel
theorem dX7_all_305 : decode cX7_all 305 = .ok (.iload 8, 2) := by decide +kernel
theorem dX7_all_307 : decode cX7_all 307 = .ok (.iload 9, 2) := by decide +kernel
theorem dX7_all_309 : decode cX7_all 309 = .ok (.iastore, 1) := by decide +kernel
theorem dX7_all_310 : decode cX7_all 310 = .ok (.iinc 8 1, 3) := by decide +kernel
theorem dX7_all_313 : decode cX7_all 313 = .ok (.iinc 9 1, 3) := by decide +kernel
theorem dX7_all_316 : decode cX7_all 316 = .ok (.goto (-43), 3) := by decide +kernel
theorem dX7_all_319 : decode cX7_all 319 = .ok (.iconst 0, 1) := by decide +kernel
theorem dX7_all_320 : decode cX7_all 320 = .ok (.istore 9, 2) := by decide +kernel
theorem dX7_all_322 : decode cX7_all 322 = .ok (.iload 9, 2) := by decide +kernel
theorem dX7_all_324 : decode cX7_all 324 = .ok (.iload 8, 2) := by decide +kernel
theorem dX7_all_326 : decode cX7_all 326 = .ok (.if_icmp .ge 62, 3) := by decide +kernel
theorem dX7_all_329 : decode cX7_all 329 = .ok (.iinc 7 (-1), 3) := by decide +kernel
theorem dX7_all_332 : decode cX7_all 332 = .ok (.aload_n 0, 1) := by decide +kernel
theorem dX7_all_333 : decode cX7_all 333 = .ok (.getfield 65, 3) := by decide +kernel
theorem dX7_all_336 : decode cX7_all 336 = .ok (.aload_n 0, 1) := by decide +kernel
theorem dX7_all_337 : decode cX7_all 337 = .ok (.getfield 74, 3) := by decide +kernel
theorem dX7_all_340 : decode cX7_all 340 = .ok (.iload 9, 2) := by decide +kernel
theorem dX7_all_342 : decode cX7_all 342 = .ok (.iaload, 1) := by decide +kernel
theorem dX7_all_343 : decode cX7_all 343 = .ok (.iaload, 1) := by decide +kernel
theorem dX7_all_344 : decode cX7_all 344 = .ok (.istore 10, 2) := by decide +kernel
theorem dX7_all_346 : decode cX7_all 346 = .ok (.aload_n 0, 1) := by decide +kernel
theorem dX7_all_347 : decode cX7_all 347 = .ok (.getfield 68, 3) := by decide +kernel
theorem dX7_all_350 : decode cX7_all 350 = .ok (.iload 10, 2) := by decide +kernel
theorem dX7_all_352 : decode cX7_all 352 = .ok (.dup2, 1) := by decide +kernel
theorem dX7_all_353 : decode cX7_all 353 = .ok (.iaload, 1) := by decide +kernel
theorem dX7_all_354 : decode cX7_all 354 = .ok (.iconst 1, 1) := by decide +kernel
theorem dX7_all_355 : decode cX7_all 355 = .ok (.isub, 1) := by decide +kernel
theorem dX7_all_356 : decode cX7_all 356 = .ok (.iastore, 1) := by decide +kernel
theorem dX7_all_357 : decode cX7_all 357 = .ok (.aload_n 0, 1) := by decide +kernel
theorem dX7_all_358 : decode cX7_all 358 = .ok (.getfield 68, 3) := by decide +kernel
theorem dX7_all_361 : decode cX7_all 361 = .ok (.iload 10, 2) := by decide +kernel
theorem dX7_all_363 : decode cX7_all 363 = .ok (.iaload, 1) := by decide +kernel
theorem dX7_all_364 : decode cX7_all 364 = .ok (.ifCond .le 6, 3) := by decide +kernel
theorem dX7_all_367 : decode cX7_all 367 = .ok (.goto 15, 3) := by decide +kernel
theorem dX7_all_370 : decode cX7_all 370 = .ok (.aload_n 0, 1) := by decide +kernel
theorem dX7_all_371 : decode cX7_all 371 = .ok (.getfield 74, 3) := by decide +kernel
theorem dX7_all_374 : decode cX7_all 374 = .ok (.iload 8, 2) := by decide +kernel
theorem dX7_all_376 : decode cX7_all 376 = .ok (.iload 10, 2) := by decide +kernel
theorem dX7_all_378 : decode cX7_all 378 = .ok (.iastore, 1) := by decide +kernel
theorem dX7_all_379 : decode cX7_all 379 = .ok (.iinc 8 1, 3) := by decide +kernel
theorem dX7_all_382 : decode cX7_all 382 = .ok (.iinc 9 1, 3) := by decide +kernel
theorem dX7_all_385 : decode cX7_all 385 = .ok (.goto (-63), 3) := by decide +kernel
theorem dX7_all_388 : decode cX7_all 388 = .ok (.iload_n 3, 1) := by decide +kernel
theorem dX7_all_389 : decode cX7_all 389 = .ok (.iconst 1, 1) := by decide +kernel
theorem dX7_all_390 : decode cX7_all 390 = .ok (.if_icmp .ne 6, 3) := by decide +kernel
theorem dX7_all_393 : decode cX7_all 393 = .ok (.iload 7, 2) := by decide +kernel
theorem dX7_all_395 : decode cX7_all 395 = .ok (.ireturn, 1) := by decide +kernel
theorem dX7_all_396 : decode cX7_all 396 = .ok (.iconst 0, 1) := by decide +kernel
theorem dX7_all_397 : decode cX7_all 397 = .ok (.istore 9, 2) := by decide +kernel
theorem dX7_all_399 : decode cX7_all 399 = .ok (.iload 8, 2) := by decide +kernel
theorem dX7_all_401 : decode cX7_all 401 = .ok (.iconst 1, 1) := by decide +kernel
theorem dX7_all_402 : decode cX7_all 402 = .ok (.isub, 1) := by decide +kernel
theorem dX7_all_403 : decode cX7_all 403 = .ok (.istore 10, 2) := by decide +kernel
theorem dX7_all_405 : decode cX7_all 405 = .ok (.iload 10, 2) := by decide +kernel
theorem dX7_all_407 : decode cX7_all 407 = .ok (.ifCond .lt 76, 3) := by decide +kernel
theorem dX7_all_410 : decode cX7_all 410 = .ok (.aload_n 0, 1) := by decide +kernel
theorem dX7_all_411 : decode cX7_all 411 = .ok (.getfield 71, 3) := by decide +kernel
theorem dX7_all_414 : decode cX7_all 414 = .ok (.aload_n 0, 1) := by decide +kernel
theorem dX7_all_415 : decode cX7_all 415 = .ok (.getfield 74, 3) := by decide +kernel
theorem dX7_all_418 : decode cX7_all 418 = .ok (.iload 10, 2) := by decide +kernel
theorem dX7_all_420 : decode cX7_all 420 = .ok (.iaload, 1) := by decide +kernel
theorem dX7_all_421 : decode cX7_all 421 = .ok (.aload_n 0, 1) := by decide +kernel
theorem dX7_all_422 : decode cX7_all 422 = .ok (.getfield 71, 3) := by decide +kernel
theorem dX7_all_425 : decode cX7_all 425 = .ok (.aload_n 0, 1) := by decide +kernel
theorem dX7_all_426 : decode cX7_all 426 = .ok (.getfield 65, 3) := by decide +kernel
theorem dX7_all_429 : decode cX7_all 429 = .ok (.aload_n 0, 1) := by decide +kernel
theorem dX7_all_430 : decode cX7_all 430 = .ok (.getfield 74, 3) := by decide +kernel
theorem dX7_all_433 : decode cX7_all 433 = .ok (.iload 10, 2) := by decide +kernel
theorem dX7_all_435 : decode cX7_all 435 = .ok (.iaload, 1) := by decide +kernel
theorem dX7_all_436 : decode cX7_all 436 = .ok (.iaload, 1) := by decide +kernel
theorem dX7_all_437 : decode cX7_all 437 = .ok (.iaload, 1) := by decide +kernel
theorem dX7_all_438 : decode cX7_all 438 = .ok (.iconst 1, 1) := by decide +kernel
theorem dX7_all_439 : decode cX7_all 439 = .ok (.iadd, 1) := by decide +kernel
theorem dX7_all_440 : decode cX7_all 440 = .ok (.iastore, 1) := by decide +kernel
theorem dX7_all_441 : decode cX7_all 441 = .ok (.aload_n 0, 1) := by decide +kernel
theorem dX7_all_442 : decode cX7_all 442 = .ok (.getfield 71, 3) := by decide +kernel
theorem dX7_all_445 : decode cX7_all 445 = .ok (.aload_n 0, 1) := by decide +kernel
theorem dX7_all_446 : decode cX7_all 446 = .ok (.getfield 74, 3) := by decide +kernel
theorem dX7_all_449 : decode cX7_all 449 = .ok (.iload 10, 2) := by decide +kernel
theorem dX7_all_451 : decode cX7_all 451 = .ok (.iaload, 1) := by decide +kernel
theorem dX7_all_452 : decode cX7_all 452 = .ok (.iaload, 1) := by decide +kernel
theorem dX7_all_453 : decode cX7_all 453 = .ok (.iload 9, 2) := by decide +kernel
theorem dX7_all_455 : decode cX7_all 455 = .ok (.if_icmp .le 18, 3) := by decide +kernel
theorem dX7_all_458 : decode cX7_all 458 = .ok (.aload_n 0, 1) := by decide +kernel
theorem dX7_all_459 : decode cX7_all 459 = .ok (.getfield 71, 3) := by decide +kernel
theorem dX7_all_462 : decode cX7_all 462 = .ok (.aload_n 0, 1) := by decide +kernel
theorem dX7_all_463 : decode cX7_all 463 = .ok (.getfield 74, 3) := by decide +kernel
theorem dX7_all_466 : decode cX7_all 466 = .ok (.iload 10, 2) := by decide +kernel
theorem dX7_all_468 : decode cX7_all 468 = .ok (.iaload, 1) := by decide +kernel
theorem dX7_all_469 : decode cX7_all 469 = .ok (.iaload, 1) := by decide +kernel
theorem dX7_all_470 : decode cX7_all 470 = .ok (.goto 5, 3) := by decide +kernel
theorem dX7_all_473 : decode cX7_all 473 = .ok (.iload 9, 2) := by decide +kernel
theorem dX7_all_475 : decode cX7_all 475 = .ok (.istore 9, 2) := by decide +kernel
theorem dX7_all_477 : decode cX7_all 477 = .ok (.iinc 10 (-1), 3) := by decide +kernel
theorem dX7_all_480 : decode cX7_all 480 = .ok (.goto (-75), 3) := by decide +kernel
theorem dX7_all_483 : decode cX7_all 483 = .ok (.iload_n 3, 1) := by decide +kernel
theorem dX7_all_484 : decode cX7_all 484 = .ok (.iconst 3, 1) := by decide +kernel
theorem dX7_all_485 : decode cX7_all 485 = .ok (.if_icmp .ne 6, 3) := by decide +kernel
theorem dX7_all_488 : decode cX7_all 488 = .ok (.iload 9, 2) := by decide +kernel
theorem dX7_all_490 : decode cX7_all 490 = .ok (.ireturn, 1) := by decide +kernel
theorem dX7_all_491 : decode cX7_all 491 = .ok (.iconst 0, 1) := by decide +kernel
theorem dX7_all_492 : decode cX7_all 492 = .ok (.istore 10, 2) := by decide +kernel
theorem dX7_all_494 : decode cX7_all 494 = .ok (.iconst 0, 1) := by decide +kernel
theorem dX7_all_495 : decode cX7_all 495 = .ok (.istore 11, 2) := by decide +kernel
theorem dX7_all_497 : decode cX7_all 497 = .ok (.iconst 0, 1) := by decide +kernel
theorem dX7_all_498 : decode cX7_all 498 = .ok (.istore 12, 2) := by decide +kernel
theorem dX7_all_500 : decode cX7_all 500 = .ok (.iload 12, 2) := by decide +kernel
theorem dX7_all_502 : decode cX7_all 502 = .ok (.iload 5, 2) := by decide +kernel
theorem dX7_all_504 : decode cX7_all 504 = .ok (.if_icmp .ge 81, 3) := by decide +kernel
theorem dX7_all_507 : decode cX7_all 507 = .ok (.aload_n 0, 1) := by decide +kernel
theorem dX7_all_508 : decode cX7_all 508 = .ok (.getfield 71, 3) := by decide +kernel
theorem dX7_all_511 : decode cX7_all 511 = .ok (.iload 12, 2) := by decide +kernel
theorem dX7_all_513 : decode cX7_all 513 = .ok (.iaload, 1) := by decide +kernel
theorem dX7_all_514 : decode cX7_all 514 = .ok (.ifCond .eq 6, 3) := by decide +kernel
theorem dX7_all_517 : decode cX7_all 517 = .ok (.goto 62, 3) := by decide +kernel
theorem dX7_all_520 : decode cX7_all 520 = .ok (.iconst 0, 1) := by decide +kernel
theorem dX7_all_521 : decode cX7_all 521 = .ok (.istore 13, 2) := by decide +kernel
theorem dX7_all_523 : decode cX7_all 523 = .ok (.iload 12, 2) := by decide +kernel
theorem dX7_all_525 : decode cX7_all 525 = .ok (.istore 14, 2) := by decide +kernel
theorem dX7_all_527 : decode cX7_all 527 = .ok (.aload_n 0, 1) := by decide +kernel
theorem dX7_all_528 : decode cX7_all 528 = .ok (.getfield 71, 3) := by decide +kernel
theorem dX7_all_531 : decode cX7_all 531 = .ok (.iload 14, 2) := by decide +kernel
theorem dX7_all_533 : decode cX7_all 533 = .ok (.iaload, 1) := by decide +kernel
theorem dX7_all_534 : decode cX7_all 534 = .ok (.ifCond .ne 26, 3) := by decide +kernel
theorem dX7_all_537 : decode cX7_all 537 = .ok (.aload_n 0, 1) := by decide +kernel
theorem dX7_all_538 : decode cX7_all 538 = .ok (.getfield 71, 3) := by decide +kernel
theorem dX7_all_541 : decode cX7_all 541 = .ok (.iload 14, 2) := by decide +kernel
theorem dX7_all_543 : decode cX7_all 543 = .ok (.iconst (-1), 1) := by decide +kernel
theorem dX7_all_544 : decode cX7_all 544 = .ok (.iastore, 1) := by decide +kernel
theorem dX7_all_545 : decode cX7_all 545 = .ok (.iinc 13 1, 3) := by decide +kernel
theorem dX7_all_548 : decode cX7_all 548 = .ok (.aload_n 0, 1) := by decide +kernel
theorem dX7_all_549 : decode cX7_all 549 = .ok (.getfield 65, 3) := by decide +kernel
theorem dX7_all_552 : decode cX7_all 552 = .ok (.iload 14, 2) := by decide +kernel
theorem dX7_all_554 : decode cX7_all 554 = .ok (.iaload, 1) := by decide +kernel
theorem dX7_all_555 : decode cX7_all 555 = .ok (.istore 14, 2) := by decide +kernel
theorem dX7_all_557 : decode cX7_all 557 = .ok (.goto (-30), 3) := by decide +kernel
theorem dX7_all_560 : decode cX7_all 560 = .ok (.iinc 10 1, 3) := by decide +kernel
theorem dX7_all_563 : decode cX7_all 563 = .ok (.iload 13, 2) := by decide +kernel
theorem dX7_all_565 : decode cX7_all 565 = .ok (.iload 11, 2) := by decide +kernel
theorem dX7_all_567 : decode cX7_all 567 = .ok (.if_icmp .le 8, 3) := by decide +kernel
theorem dX7_all_570 : decode cX7_all 570 = .ok (.iload 13, 2) := by decide +kernel
theorem dX7_all_572 : decode cX7_all 572 = .ok (.goto 5, 3) := by decide +kernel
theorem dX7_all_575 : decode cX7_all 575 = .ok (.iload 11, 2) := by decide +kernel
theorem dX7_all_577 : decode cX7_all 577 = .ok (.istore 11, 2) := by decide +kernel
theorem dX7_all_579 : decode cX7_all 579 = .ok (.iinc 12 1, 3) := by decide +kernel
theorem dX7_all_582 : decode cX7_all 582 = .ok (.goto (-82), 3) := by decide +kernel
theorem dX7_all_585 : decode cX7_all 585 = .ok (.iload_n 3, 1) := by decide +kernel
theorem dX7_all_586 : decode cX7_all 586 = .ok (.iconst 2, 1) := by decide +kernel
theorem dX7_all_587 : decode cX7_all 587 = .ok (.if_icmp .ne 8, 3) := by decide +kernel
theorem dX7_all_590 : decode cX7_all 590 = .ok (.iload 10, 2) := by decide +kernel
theorem dX7_all_592 : decode cX7_all 592 = .ok (.goto 5, 3) := by decide +kernel
theorem dX7_all_595 : decode cX7_all 595 = .ok (.iload 11, 2) := by decide +kernel
theorem dX7_all_597 : decode cX7_all 597 = .ok (.ireturn, 1) := by decide +kernel
set_option maxRecDepth 20000 in
theorem ggX7_gain_X7_tells : GoodIn wsX7_gain wsX7_tells := goodIn_r _ [6, 7, 17, 18, 19, 20, 21, 22, 23, 24, 25, 26, 27, 28, 29, 30, 31, 32, 33, 34, 35, 36, 37, 38, 39, 40, 41, 42, 43] (by decide +kernel) (by decide +kernel)
set_option maxRecDepth 20000 in
theorem gX7_gain_X7_tells : GoodIn wsX7_gain (wsV RX7 123 RX7 yX7_tells wsX7_tells) := goodIn_app (goodIn_of _ (by decide +kernel)) ggX7_gain_X7_tells
set_option maxRecDepth 20000 in
theorem ggX7_gain_X7_overlaps : GoodIn wsX7_gain wsX7_overlaps := goodIn_r _ [11, 12, 13, 14, 15, 5, 16, 17, 18, 19, 20, 21, 22, 23, 24, 25, 26, 27, 28, 29, 30, 31, 32, 33, 34, 35, 36, 37, 38, 39, 40, 41, 42, 43] (by decide +kernel) (by decide +kernel)
set_option maxRecDepth 20000 in
theorem gX7_gain_X7_overlaps : GoodIn wsX7_gain (wsV RX7 141 RX7 yX7_overlaps wsX7_overlaps) := goodIn_app (goodIn_of _ (by decide +kernel)) ggX7_gain_X7_overlaps
theorem dX7_gain_0 : decode cX7_gain 0 = .ok (.aload_n 0, 1) := by decide +kernel
theorem dX7_gain_1 : decode cX7_gain 1 = .ok (.getfield 7, 3) := by decide +kernel
theorem dX7_gain_4 : decode cX7_gain 4 = .ok (.aload_n 0, 1) := by decide +kernel
theorem dX7_gain_5 : decode cX7_gain 5 = .ok (.iload_n 1, 1) := by decide +kernel
theorem dX7_gain_6 : decode cX7_gain 6 = .ok (.iload_n 2, 1) := by decide +kernel
theorem dX7_gain_7 : decode cX7_gain 7 = .ok (.invokevirtual 123, 3) := by decide +kernel
theorem dX7_gain_10 : decode cX7_gain 10 = .ok (.baload, 1) := by decide +kernel
theorem dX7_gain_11 : decode cX7_gain 11 = .ok (.aload_n 0, 1) := by decide +kernel
theorem dX7_gain_12 : decode cX7_gain 12 = .ok (.getfield 7, 3) := by decide +kernel
theorem dX7_gain_15 : decode cX7_gain 15 = .ok (.iload_n 2, 1) := by decide +kernel
theorem dX7_gain_16 : decode cX7_gain 16 = .ok (.aload_n 0, 1) := by decide +kernel
theorem dX7_gain_17 : decode cX7_gain 17 = .ok (.iload_n 1, 1) := by decide +kernel
theorem dX7_gain_18 : decode cX7_gain 18 = .ok (.invokevirtual 141, 3) := by decide +kernel
theorem dX7_gain_21 : decode cX7_gain 21 = .ok (.idiv, 1) := by decide +kernel
theorem dX7_gain_22 : decode cX7_gain 22 = .ok (.baload, 1) := by decide +kernel
theorem dX7_gain_23 : decode cX7_gain 23 = .ok (.isub, 1) := by decide +kernel
theorem dX7_gain_24 : decode cX7_gain 24 = .ok (.ireturn, 1) := by decide +kernel
set_option maxRecDepth 20000 in
theorem ggX7_keeps_X7_taken : GoodIn wsX7_keeps wsX7_taken := goodIn_r _ [10, 11, 2, 40, 41, 42, 43, 44, 45, 46, 47, 48, 49, 50, 51, 52, 53, 54, 55, 56, 57, 58, 59, 60, 61, 62, 63, 64, 65, 66] (by decide +kernel) (by decide +kernel)
set_option maxRecDepth 20000 in
theorem gX7_keeps_X7_taken : GoodIn wsX7_keeps (wsV RX7 102 RX7 yX7_taken wsX7_taken) := goodIn_app (goodIn_of _ (by decide +kernel)) ggX7_keeps_X7_taken
set_option maxRecDepth 20000 in
theorem ggX7_keeps_X7_has : GoodIn wsX7_keeps wsX7_has := goodIn_r _ [15, 3, 16, 17, 9, 18, 40, 41, 42, 43, 44, 45, 46, 47, 48, 49, 50, 51, 52, 53, 54, 55, 56, 57, 58, 59, 60, 61, 62, 63, 64, 65, 66] (by decide +kernel) (by decide +kernel)
set_option maxRecDepth 20000 in
theorem gX7_keeps_X7_has : GoodIn wsX7_keeps (wsV RX7 120 RX7 yX7_has wsX7_has) := goodIn_app (goodIn_of _ (by decide +kernel)) ggX7_keeps_X7_has
set_option maxRecDepth 20000 in
theorem ggX7_keeps_X7_overlaps : GoodIn wsX7_keeps wsX7_overlaps := goodIn_r _ [22, 3, 5, 23, 24, 9, 25, 40, 41, 42, 43, 44, 45, 46, 47, 48, 49, 50, 51, 52, 53, 54, 55, 56, 57, 58, 59, 60, 61, 62, 63, 64, 65, 66] (by decide +kernel) (by decide +kernel)
set_option maxRecDepth 20000 in
theorem gX7_keeps_X7_overlaps : GoodIn wsX7_keeps (wsV RX7 141 RX7 yX7_overlaps wsX7_overlaps) := goodIn_app (goodIn_of _ (by decide +kernel)) ggX7_keeps_X7_overlaps
set_option maxRecDepth 20000 in
theorem ggX7_keeps_X7_power : GoodIn wsX7_keeps wsX7_power := goodIn_r _ [25] (by decide +kernel) (by decide +kernel)
set_option maxRecDepth 20000 in
theorem gX7_keeps_X7_power : GoodIn wsX7_keeps (va_wsS RX7 98 yX7_power wsX7_power) := goodIn_app (goodIn_of _ (by decide +kernel)) ggX7_keeps_X7_power
set_option maxRecDepth 20000 in
theorem ggX7_keeps_X7_gain : GoodIn wsX7_keeps wsX7_gain := goodIn_r _ [29, 30, 31, 32, 33, 9, 34, 35, 19, 20, 21, 22, 3, 5, 23, 24, 25, 40, 41, 42, 43, 44, 45, 46, 47, 48, 49, 50, 51, 52, 53, 54, 55, 56, 57, 58, 59, 60, 61, 62, 63, 64, 65, 66] (by decide +kernel) (by decide +kernel)
set_option maxRecDepth 20000 in
theorem gX7_keeps_X7_gain : GoodIn wsX7_keeps (wsV RX7 190 RX7 yX7_gain wsX7_gain) := goodIn_app (goodIn_of _ (by decide +kernel)) ggX7_keeps_X7_gain
set_option maxRecDepth 20000 in
theorem ggX7_keeps_X7_then : GoodIn wsX7_keeps wsX7_then := goodIn_r _ [39, 3, 19, 20, 21, 9, 22, 5, 23, 24, 25, 40, 41, 42, 43, 44, 45, 46, 47, 48, 49, 50, 51, 52, 53, 54, 55, 56, 57, 58, 59, 60, 61, 62, 63, 64, 65, 66] (by decide +kernel) (by decide +kernel)
set_option maxRecDepth 20000 in
theorem gX7_keeps_X7_then : GoodIn wsX7_keeps (wsV RX7 144 RX7 yX7_then wsX7_then) := goodIn_app (goodIn_of _ (by decide +kernel)) ggX7_keeps_X7_then
theorem dX7_keeps_0 : decode cX7_keeps 0 = .ok (.aload_n 0, 1) := by decide +kernel
theorem dX7_keeps_1 : decode cX7_keeps 1 = .ok (.iconst 0, 1) := by decide +kernel
theorem dX7_keeps_2 : decode cX7_keeps 2 = .ok (.putfield 80, 3) := by decide +kernel
theorem dX7_keeps_5 : decode cX7_keeps 5 = .ok (.aload_n 0, 1) := by decide +kernel
theorem dX7_keeps_6 : decode cX7_keeps 6 = .ok (.invokevirtual 102, 3) := by decide +kernel
theorem dX7_keeps_9 : decode cX7_keeps 9 = .ok (.aload_n 0, 1) := by decide +kernel
theorem dX7_keeps_10 : decode cX7_keeps 10 = .ok (.iload_n 1, 1) := by decide +kernel
theorem dX7_keeps_11 : decode cX7_keeps 11 = .ok (.invokevirtual 120, 3) := by decide +kernel
theorem dX7_keeps_14 : decode cX7_keeps 14 = .ok (.ifCond .eq 16, 3) := by decide +kernel
theorem dX7_keeps_17 : decode cX7_keeps 17 = .ok (.aload_n 0, 1) := by decide +kernel
theorem dX7_keeps_18 : decode cX7_keeps 18 = .ok (.getfield 91, 3) := by decide +kernel
theorem dX7_keeps_21 : decode cX7_keeps 21 = .ok (.aload_n 0, 1) := by decide +kernel
theorem dX7_keeps_22 : decode cX7_keeps 22 = .ok (.getfield 13, 3) := by decide +kernel
theorem dX7_keeps_25 : decode cX7_keeps 25 = .ok (.iload_n 1, 1) := by decide +kernel
theorem dX7_keeps_26 : decode cX7_keeps 26 = .ok (.iaload, 1) := by decide +kernel
theorem dX7_keeps_27 : decode cX7_keeps 27 = .ok (.if_icmp .eq 5, 3) := by decide +kernel
theorem dX7_keeps_30 : decode cX7_keeps 30 = .ok (.iconst (-1), 1) := by decide +kernel
theorem dX7_keeps_31 : decode cX7_keeps 31 = .ok (.ireturn, 1) := by decide +kernel
theorem dX7_keeps_32 : decode cX7_keeps 32 = .ok (.aload_n 0, 1) := by decide +kernel
theorem dX7_keeps_33 : decode cX7_keeps 33 = .ok (.getfield 13, 3) := by decide +kernel
theorem dX7_keeps_36 : decode cX7_keeps 36 = .ok (.iload_n 1, 1) := by decide +kernel
theorem dX7_keeps_37 : decode cX7_keeps 37 = .ok (.iaload, 1) := by decide +kernel
theorem dX7_keeps_38 : decode cX7_keeps 38 = .ok (.istore_n 2, 1) := by decide +kernel
theorem dX7_keeps_39 : decode cX7_keeps 39 = .ok (.aload_n 0, 1) := by decide +kernel
theorem dX7_keeps_40 : decode cX7_keeps 40 = .ok (.iload_n 1, 1) := by decide +kernel
theorem dX7_keeps_41 : decode cX7_keeps 41 = .ok (.invokevirtual 141, 3) := by decide +kernel
theorem dX7_keeps_44 : decode cX7_keeps 44 = .ok (.istore_n 3, 1) := by decide +kernel
theorem dX7_keeps_45 : decode cX7_keeps 45 = .ok (.iconst 0, 1) := by decide +kernel
theorem dX7_keeps_46 : decode cX7_keeps 46 = .ok (.istore 4, 2) := by decide +kernel
theorem dX7_keeps_48 : decode cX7_keeps 48 = .ok (.iload 4, 2) := by decide +kernel
theorem dX7_keeps_50 : decode cX7_keeps 50 = .ok (.iload_n 3, 1) := by decide +kernel
theorem dX7_keeps_51 : decode cX7_keeps 51 = .ok (.if_icmp .ge 87, 3) := by decide +kernel
theorem dX7_keeps_54 : decode cX7_keeps 54 = .ok (.iconst 0, 1) := by decide +kernel
theorem dX7_keeps_55 : decode cX7_keeps 55 = .ok (.istore 5, 2) := by decide +kernel
theorem dX7_keeps_57 : decode cX7_keeps 57 = .ok (.aload_n 0, 1) := by decide +kernel
theorem dX7_keeps_58 : decode cX7_keeps 58 = .ok (.getfield 77, 3) := by decide +kernel
theorem dX7_keeps_61 : decode cX7_keeps 61 = .ok (.iload 4, 2) := by decide +kernel
theorem dX7_keeps_63 : decode cX7_keeps 63 = .ok (.iconst 0, 1) := by decide +kernel
theorem dX7_keeps_64 : decode cX7_keeps 64 = .ok (.iastore, 1) := by decide +kernel
theorem dX7_keeps_65 : decode cX7_keeps 65 = .ok (.aload_n 0, 1) := by decide +kernel
theorem dX7_keeps_66 : decode cX7_keeps 66 = .ok (.getfield 17, 3) := by decide +kernel
theorem dX7_keeps_69 : decode cX7_keeps 69 = .ok (.iload_n 1, 1) := by decide +kernel
theorem dX7_keeps_70 : decode cX7_keeps 70 = .ok (.iaload, 1) := by decide +kernel
theorem dX7_keeps_71 : decode cX7_keeps 71 = .ok (.iconst 2, 1) := by decide +kernel
theorem dX7_keeps_72 : decode cX7_keeps 72 = .ok (.isub, 1) := by decide +kernel
theorem dX7_keeps_73 : decode cX7_keeps 73 = .ok (.istore 6, 2) := by decide +kernel
theorem dX7_keeps_75 : decode cX7_keeps 75 = .ok (.iload 6, 2) := by decide +kernel
theorem dX7_keeps_77 : decode cX7_keeps 77 = .ok (.ifCond .lt 55, 3) := by decide +kernel
theorem dX7_keeps_80 : decode cX7_keeps 80 = .ok (.iload 4, 2) := by decide +kernel
theorem dX7_keeps_82 : decode cX7_keeps 82 = .ok (.iload_n 2, 1) := by decide +kernel
theorem dX7_keeps_83 : decode cX7_keeps 83 = .ok (.iload 6, 2) := by decide +kernel
theorem dX7_keeps_85 : decode cX7_keeps 85 = .ok (.invokestatic 98, 3) := by decide +kernel
theorem dX7_keeps_88 : decode cX7_keeps 88 = .ok (.idiv, 1) := by decide +kernel
theorem dX7_keeps_89 : decode cX7_keeps 89 = .ok (.iload_n 2, 1) := by decide +kernel
theorem dX7_keeps_90 : decode cX7_keeps 90 = .ok (.irem, 1) := by decide +kernel
theorem dX7_keeps_91 : decode cX7_keeps 91 = .ok (.istore 7, 2) := by decide +kernel
theorem dX7_keeps_93 : decode cX7_keeps 93 = .ok (.aload_n 0, 1) := by decide +kernel
theorem dX7_keeps_94 : decode cX7_keeps 94 = .ok (.getfield 77, 3) := by decide +kernel
theorem dX7_keeps_97 : decode cX7_keeps 97 = .ok (.iload 4, 2) := by decide +kernel
theorem dX7_keeps_99 : decode cX7_keeps 99 = .ok (.dup2, 1) := by decide +kernel
theorem dX7_keeps_100 : decode cX7_keeps 100 = .ok (.iaload, 1) := by decide +kernel
theorem dX7_keeps_101 : decode cX7_keeps 101 = .ok (.aload_n 0, 1) := by decide +kernel
theorem dX7_keeps_102 : decode cX7_keeps 102 = .ok (.iload_n 1, 1) := by decide +kernel
theorem dX7_keeps_103 : decode cX7_keeps 103 = .ok (.iload_n 2, 1) := by decide +kernel
theorem dX7_keeps_104 : decode cX7_keeps 104 = .ok (.iload 5, 2) := by decide +kernel
theorem dX7_keeps_106 : decode cX7_keeps 106 = .ok (.imul, 1) := by decide +kernel
theorem dX7_keeps_107 : decode cX7_keeps 107 = .ok (.iload 7, 2) := by decide +kernel
theorem dX7_keeps_109 : decode cX7_keeps 109 = .ok (.iadd, 1) := by decide +kernel
theorem dX7_keeps_110 : decode cX7_keeps 110 = .ok (.invokevirtual 190, 3) := by decide +kernel
theorem dX7_keeps_113 : decode cX7_keeps 113 = .ok (.iadd, 1) := by decide +kernel
theorem dX7_keeps_114 : decode cX7_keeps 114 = .ok (.iastore, 1) := by decide +kernel
theorem dX7_keeps_115 : decode cX7_keeps 115 = .ok (.aload_n 0, 1) := by decide +kernel
theorem dX7_keeps_116 : decode cX7_keeps 116 = .ok (.iload_n 1, 1) := by decide +kernel
theorem dX7_keeps_117 : decode cX7_keeps 117 = .ok (.iload 5, 2) := by decide +kernel
theorem dX7_keeps_119 : decode cX7_keeps 119 = .ok (.iload 7, 2) := by decide +kernel
theorem dX7_keeps_121 : decode cX7_keeps 121 = .ok (.invokevirtual 144, 3) := by decide +kernel
theorem dX7_keeps_124 : decode cX7_keeps 124 = .ok (.istore 5, 2) := by decide +kernel
theorem dX7_keeps_126 : decode cX7_keeps 126 = .ok (.iinc 6 (-1), 3) := by decide +kernel
theorem dX7_keeps_129 : decode cX7_keeps 129 = .ok (.goto (-54), 3) := by decide +kernel
theorem dX7_keeps_132 : decode cX7_keeps 132 = .ok (.iinc 4 1, 3) := by decide +kernel
theorem dX7_keeps_135 : decode cX7_keeps 135 = .ok (.goto (-87), 3) := by decide +kernel
theorem dX7_keeps_138 : decode cX7_keeps 138 = .ok (.aload_n 0, 1) := by decide +kernel
theorem dX7_keeps_139 : decode cX7_keeps 139 = .ok (.iload_n 1, 1) := by decide +kernel
theorem dX7_keeps_140 : decode cX7_keeps 140 = .ok (.iconst 0, 1) := by decide +kernel
theorem dX7_keeps_141 : decode cX7_keeps 141 = .ok (.invokevirtual 190, 3) := by decide +kernel
theorem dX7_keeps_144 : decode cX7_keeps 144 = .ok (.ifCond .eq 5, 3) := by decide +kernel
theorem dX7_keeps_147 : decode cX7_keeps 147 = .ok (.iconst 0, 1) := by decide +kernel
theorem dX7_keeps_148 : decode cX7_keeps 148 = .ok (.ireturn, 1) := by decide +kernel
theorem dX7_keeps_149 : decode cX7_keeps 149 = .ok (.iconst 0, 1) := by decide +kernel
theorem dX7_keeps_150 : decode cX7_keeps 150 = .ok (.istore 4, 2) := by decide +kernel
theorem dX7_keeps_152 : decode cX7_keeps 152 = .ok (.iload 4, 2) := by decide +kernel
theorem dX7_keeps_154 : decode cX7_keeps 154 = .ok (.iload_n 2, 1) := by decide +kernel
theorem dX7_keeps_155 : decode cX7_keeps 155 = .ok (.iload_n 3, 1) := by decide +kernel
theorem dX7_keeps_156 : decode cX7_keeps 156 = .ok (.imul, 1) := by decide +kernel
theorem dX7_keeps_157 : decode cX7_keeps 157 = .ok (.if_icmp .ge 40, 3) := by decide +kernel
theorem dX7_keeps_160 : decode cX7_keeps 160 = .ok (.aload_n 0, 1) := by decide +kernel
theorem dX7_keeps_161 : decode cX7_keeps 161 = .ok (.getfield 77, 3) := by decide +kernel
theorem dX7_keeps_164 : decode cX7_keeps 164 = .ok (.iload 4, 2) := by decide +kernel
theorem dX7_keeps_166 : decode cX7_keeps 166 = .ok (.iload_n 2, 1) := by decide +kernel
theorem dX7_keeps_167 : decode cX7_keeps 167 = .ok (.idiv, 1) := by decide +kernel
theorem dX7_keeps_168 : decode cX7_keeps 168 = .ok (.iaload, 1) := by decide +kernel
theorem dX7_keeps_169 : decode cX7_keeps 169 = .ok (.aload_n 0, 1) := by decide +kernel
theorem dX7_keeps_170 : decode cX7_keeps 170 = .ok (.iload_n 1, 1) := by decide +kernel
theorem dX7_keeps_171 : decode cX7_keeps 171 = .ok (.iload 4, 2) := by decide +kernel
theorem dX7_keeps_173 : decode cX7_keeps 173 = .ok (.invokevirtual 190, 3) := by decide +kernel
theorem dX7_keeps_176 : decode cX7_keeps 176 = .ok (.iadd, 1) := by decide +kernel
theorem dX7_keeps_177 : decode cX7_keeps 177 = .ok (.aload_n 0, 1) := by decide +kernel
theorem dX7_keeps_178 : decode cX7_keeps 178 = .ok (.getfield 77, 3) := by decide +kernel
theorem dX7_keeps_181 : decode cX7_keeps 181 = .ok (.iload 4, 2) := by decide +kernel
theorem dX7_keeps_183 : decode cX7_keeps 183 = .ok (.iload_n 3, 1) := by decide +kernel
theorem dX7_keeps_184 : decode cX7_keeps 184 = .ok (.irem, 1) := by decide +kernel
theorem dX7_keeps_185 : decode cX7_keeps 185 = .ok (.iaload, 1) := by decide +kernel
theorem dX7_keeps_186 : decode cX7_keeps 186 = .ok (.if_icmp .eq 5, 3) := by decide +kernel
theorem dX7_keeps_189 : decode cX7_keeps 189 = .ok (.iconst 0, 1) := by decide +kernel
theorem dX7_keeps_190 : decode cX7_keeps 190 = .ok (.ireturn, 1) := by decide +kernel
theorem dX7_keeps_191 : decode cX7_keeps 191 = .ok (.iinc 4 1, 3) := by decide +kernel
theorem dX7_keeps_194 : decode cX7_keeps 194 = .ok (.goto (-42), 3) := by decide +kernel
theorem dX7_keeps_197 : decode cX7_keeps 197 = .ok (.iconst 1, 1) := by decide +kernel
theorem dX7_keeps_198 : decode cX7_keeps 198 = .ok (.ireturn, 1) := by decide +kernel
set_option maxRecDepth 20000 in
theorem ggX7_join_X7_has : GoodIn wsX7_join wsX7_has := goodIn_r _ [9, 2, 10, 11, 8, 12, 27, 28, 29, 30, 31, 32, 33, 34, 35, 36, 37, 38, 39, 40, 41, 42, 43, 44, 45, 46, 47, 48, 49, 50, 51, 52, 53] (by decide +kernel) (by decide +kernel)
set_option maxRecDepth 20000 in
theorem gX7_join_X7_has : GoodIn wsX7_join (wsV RX7 120 RX7 yX7_has wsX7_has) := goodIn_app (goodIn_of _ (by decide +kernel)) ggX7_join_X7_has
set_option maxRecDepth 20000 in
theorem ggX7_join_X7_isSlot : GoodIn wsX7_join wsX7_isSlot := goodIn_r _ [12] (by decide +kernel) (by decide +kernel)
set_option maxRecDepth 20000 in
theorem gX7_join_X7_isSlot : GoodIn wsX7_join (va_wsS RX7 94 yX7_isSlot wsX7_isSlot) := goodIn_app (goodIn_of _ (by decide +kernel)) ggX7_join_X7_isSlot
set_option maxRecDepth 20000 in
theorem ggX7_join_X7_widest : GoodIn wsX7_join wsX7_widest := goodIn_r _ [15] (by decide +kernel) (by decide +kernel)
set_option maxRecDepth 20000 in
theorem gX7_join_X7_widest : GoodIn wsX7_join (va_wsS RX7 105 yX7_widest wsX7_widest) := goodIn_app (goodIn_of _ (by decide +kernel)) ggX7_join_X7_widest
set_option maxRecDepth 20000 in
theorem ggX7_join_X7_power : GoodIn wsX7_join wsX7_power := goodIn_r _ [18] (by decide +kernel) (by decide +kernel)
set_option maxRecDepth 20000 in
theorem gX7_join_X7_power : GoodIn wsX7_join (va_wsS RX7 98 yX7_power wsX7_power) := goodIn_app (goodIn_of _ (by decide +kernel)) ggX7_join_X7_power
set_option maxRecDepth 20000 in
theorem ggX7_join_X7_tells : GoodIn wsX7_join wsX7_tells := goodIn_r _ [22, 4, 27, 28, 29, 30, 31, 32, 33, 34, 35, 36, 37, 38, 39, 40, 41, 42, 43, 44, 45, 46, 47, 48, 49, 50, 51, 52, 53] (by decide +kernel) (by decide +kernel)
set_option maxRecDepth 20000 in
theorem gX7_join_X7_tells : GoodIn wsX7_join (wsV RX7 123 RX7 yX7_tells wsX7_tells) := goodIn_app (goodIn_of _ (by decide +kernel)) ggX7_join_X7_tells
set_option maxRecDepth 20000 in
theorem ggX7_join_X7_lay : GoodIn wsX7_join wsX7_lay := goodIn_r _ [26, 4, 2, 3, 16, 17, 8, 18, 27, 28, 29, 30, 31, 32, 33, 34, 35, 36, 37, 38, 39, 40, 41, 42, 43, 44, 45, 46, 47, 48, 49, 50, 51, 52, 53] (by decide +kernel) (by decide +kernel)
set_option maxRecDepth 20000 in
theorem gX7_join_X7_lay : GoodIn wsX7_join (wsV RX7 109 RX7 yX7_lay wsX7_lay) := goodIn_app (goodIn_of _ (by decide +kernel)) ggX7_join_X7_lay
theorem dX7_join_0 : decode cX7_join 0 = .ok (.aload_n 0, 1) := by decide +kernel
theorem dX7_join_1 : decode cX7_join 1 = .ok (.iconst 0, 1) := by decide +kernel
theorem dX7_join_2 : decode cX7_join 2 = .ok (.putfield 80, 3) := by decide +kernel
theorem dX7_join_5 : decode cX7_join 5 = .ok (.aload_n 0, 1) := by decide +kernel
theorem dX7_join_6 : decode cX7_join 6 = .ok (.iload_n 1, 1) := by decide +kernel
theorem dX7_join_7 : decode cX7_join 7 = .ok (.invokevirtual 120, 3) := by decide +kernel
theorem dX7_join_10 : decode cX7_join 10 = .ok (.ifCond .eq 33, 3) := by decide +kernel
theorem dX7_join_13 : decode cX7_join 13 = .ok (.aload_n 0, 1) := by decide +kernel
theorem dX7_join_14 : decode cX7_join 14 = .ok (.iload_n 2, 1) := by decide +kernel
theorem dX7_join_15 : decode cX7_join 15 = .ok (.invokevirtual 120, 3) := by decide +kernel
theorem dX7_join_18 : decode cX7_join 18 = .ok (.ifCond .eq 25, 3) := by decide +kernel
theorem dX7_join_21 : decode cX7_join 21 = .ok (.iload_n 3, 1) := by decide +kernel
theorem dX7_join_22 : decode cX7_join 22 = .ok (.invokestatic 94, 3) := by decide +kernel
theorem dX7_join_25 : decode cX7_join 25 = .ok (.ifCond .eq 18, 3) := by decide +kernel
theorem dX7_join_28 : decode cX7_join 28 = .ok (.aload_n 0, 1) := by decide +kernel
theorem dX7_join_29 : decode cX7_join 29 = .ok (.getfield 13, 3) := by decide +kernel
theorem dX7_join_32 : decode cX7_join 32 = .ok (.iload_n 1, 1) := by decide +kernel
theorem dX7_join_33 : decode cX7_join 33 = .ok (.iaload, 1) := by decide +kernel
theorem dX7_join_34 : decode cX7_join 34 = .ok (.aload_n 0, 1) := by decide +kernel
theorem dX7_join_35 : decode cX7_join 35 = .ok (.getfield 13, 3) := by decide +kernel
theorem dX7_join_38 : decode cX7_join 38 = .ok (.iload_n 2, 1) := by decide +kernel
theorem dX7_join_39 : decode cX7_join 39 = .ok (.iaload, 1) := by decide +kernel
theorem dX7_join_40 : decode cX7_join 40 = .ok (.if_icmp .eq 5, 3) := by decide +kernel
theorem dX7_join_43 : decode cX7_join 43 = .ok (.iconst (-1), 1) := by decide +kernel
theorem dX7_join_44 : decode cX7_join 44 = .ok (.ireturn, 1) := by decide +kernel
theorem dX7_join_45 : decode cX7_join 45 = .ok (.aload_n 0, 1) := by decide +kernel
theorem dX7_join_46 : decode cX7_join 46 = .ok (.getfield 13, 3) := by decide +kernel
theorem dX7_join_49 : decode cX7_join 49 = .ok (.iload_n 1, 1) := by decide +kernel
theorem dX7_join_50 : decode cX7_join 50 = .ok (.iaload, 1) := by decide +kernel
theorem dX7_join_51 : decode cX7_join 51 = .ok (.istore 4, 2) := by decide +kernel
theorem dX7_join_53 : decode cX7_join 53 = .ok (.aload_n 0, 1) := by decide +kernel
theorem dX7_join_54 : decode cX7_join 54 = .ok (.getfield 17, 3) := by decide +kernel
theorem dX7_join_57 : decode cX7_join 57 = .ok (.iload_n 2, 1) := by decide +kernel
theorem dX7_join_58 : decode cX7_join 58 = .ok (.iaload, 1) := by decide +kernel
theorem dX7_join_59 : decode cX7_join 59 = .ok (.istore 5, 2) := by decide +kernel
theorem dX7_join_61 : decode cX7_join 61 = .ok (.aload_n 0, 1) := by decide +kernel
theorem dX7_join_62 : decode cX7_join 62 = .ok (.getfield 17, 3) := by decide +kernel
theorem dX7_join_65 : decode cX7_join 65 = .ok (.iload_n 1, 1) := by decide +kernel
theorem dX7_join_66 : decode cX7_join 66 = .ok (.iaload, 1) := by decide +kernel
theorem dX7_join_67 : decode cX7_join 67 = .ok (.iload 5, 2) := by decide +kernel
theorem dX7_join_69 : decode cX7_join 69 = .ok (.iadd, 1) := by decide +kernel
theorem dX7_join_70 : decode cX7_join 70 = .ok (.iconst 1, 1) := by decide +kernel
theorem dX7_join_71 : decode cX7_join 71 = .ok (.isub, 1) := by decide +kernel
theorem dX7_join_72 : decode cX7_join 72 = .ok (.istore 6, 2) := by decide +kernel
theorem dX7_join_74 : decode cX7_join 74 = .ok (.iload 6, 2) := by decide +kernel
theorem dX7_join_76 : decode cX7_join 76 = .ok (.iload 4, 2) := by decide +kernel
theorem dX7_join_78 : decode cX7_join 78 = .ok (.invokestatic 105, 3) := by decide +kernel
theorem dX7_join_81 : decode cX7_join 81 = .ok (.if_icmp .le 5, 3) := by decide +kernel
theorem dX7_join_84 : decode cX7_join 84 = .ok (.iconst (-1), 1) := by decide +kernel
theorem dX7_join_85 : decode cX7_join 85 = .ok (.ireturn, 1) := by decide +kernel
theorem dX7_join_86 : decode cX7_join 86 = .ok (.iconst 0, 1) := by decide +kernel
theorem dX7_join_87 : decode cX7_join 87 = .ok (.istore 7, 2) := by decide +kernel
theorem dX7_join_89 : decode cX7_join 89 = .ok (.iload 7, 2) := by decide +kernel
theorem dX7_join_91 : decode cX7_join 91 = .ok (.iload 4, 2) := by decide +kernel
theorem dX7_join_93 : decode cX7_join 93 = .ok (.iload 6, 2) := by decide +kernel
theorem dX7_join_95 : decode cX7_join 95 = .ok (.invokestatic 98, 3) := by decide +kernel
theorem dX7_join_98 : decode cX7_join 98 = .ok (.if_icmp .ge 86, 3) := by decide +kernel
theorem dX7_join_101 : decode cX7_join 101 = .ok (.iconst 0, 1) := by decide +kernel
theorem dX7_join_102 : decode cX7_join 102 = .ok (.istore 8, 2) := by decide +kernel
theorem dX7_join_104 : decode cX7_join 104 = .ok (.iconst 0, 1) := by decide +kernel
theorem dX7_join_105 : decode cX7_join 105 = .ok (.istore 9, 2) := by decide +kernel
theorem dX7_join_107 : decode cX7_join 107 = .ok (.iload 9, 2) := by decide +kernel
theorem dX7_join_109 : decode cX7_join 109 = .ok (.iload 5, 2) := by decide +kernel
theorem dX7_join_111 : decode cX7_join 111 = .ok (.if_icmp .ge 49, 3) := by decide +kernel
theorem dX7_join_114 : decode cX7_join 114 = .ok (.iload 4, 2) := by decide +kernel
theorem dX7_join_116 : decode cX7_join 116 = .ok (.iload 8, 2) := by decide +kernel
theorem dX7_join_118 : decode cX7_join 118 = .ok (.imul, 1) := by decide +kernel
theorem dX7_join_119 : decode cX7_join 119 = .ok (.aload_n 0, 1) := by decide +kernel
theorem dX7_join_120 : decode cX7_join 120 = .ok (.iload_n 1, 1) := by decide +kernel
theorem dX7_join_121 : decode cX7_join 121 = .ok (.iload 7, 2) := by decide +kernel
theorem dX7_join_123 : decode cX7_join 123 = .ok (.iload 4, 2) := by decide +kernel
theorem dX7_join_125 : decode cX7_join 125 = .ok (.iload 5, 2) := by decide +kernel
theorem dX7_join_127 : decode cX7_join 127 = .ok (.iconst 1, 1) := by decide +kernel
theorem dX7_join_128 : decode cX7_join 128 = .ok (.isub, 1) := by decide +kernel
theorem dX7_join_129 : decode cX7_join 129 = .ok (.iload 9, 2) := by decide +kernel
theorem dX7_join_131 : decode cX7_join 131 = .ok (.isub, 1) := by decide +kernel
theorem dX7_join_132 : decode cX7_join 132 = .ok (.invokestatic 98, 3) := by decide +kernel
theorem dX7_join_135 : decode cX7_join 135 = .ok (.idiv, 1) := by decide +kernel
theorem dX7_join_136 : decode cX7_join 136 = .ok (.iload 4, 2) := by decide +kernel
theorem dX7_join_138 : decode cX7_join 138 = .ok (.aload_n 0, 1) := by decide +kernel
theorem dX7_join_139 : decode cX7_join 139 = .ok (.getfield 17, 3) := by decide +kernel
theorem dX7_join_142 : decode cX7_join 142 = .ok (.iload_n 1, 1) := by decide +kernel
theorem dX7_join_143 : decode cX7_join 143 = .ok (.iaload, 1) := by decide +kernel
theorem dX7_join_144 : decode cX7_join 144 = .ok (.invokestatic 98, 3) := by decide +kernel
theorem dX7_join_147 : decode cX7_join 147 = .ok (.irem, 1) := by decide +kernel
theorem dX7_join_148 : decode cX7_join 148 = .ok (.invokevirtual 123, 3) := by decide +kernel
theorem dX7_join_151 : decode cX7_join 151 = .ok (.iadd, 1) := by decide +kernel
theorem dX7_join_152 : decode cX7_join 152 = .ok (.istore 8, 2) := by decide +kernel
theorem dX7_join_154 : decode cX7_join 154 = .ok (.iinc 9 1, 3) := by decide +kernel
theorem dX7_join_157 : decode cX7_join 157 = .ok (.goto (-50), 3) := by decide +kernel
theorem dX7_join_160 : decode cX7_join 160 = .ok (.aload_n 0, 1) := by decide +kernel
theorem dX7_join_161 : decode cX7_join 161 = .ok (.getfield 20, 3) := by decide +kernel
theorem dX7_join_164 : decode cX7_join 164 = .ok (.sipush 162, 3) := by decide +kernel
theorem dX7_join_167 : decode cX7_join 167 = .ok (.iload 7, 2) := by decide +kernel
theorem dX7_join_169 : decode cX7_join 169 = .ok (.iadd, 1) := by decide +kernel
theorem dX7_join_170 : decode cX7_join 170 = .ok (.aload_n 0, 1) := by decide +kernel
theorem dX7_join_171 : decode cX7_join 171 = .ok (.iload_n 2, 1) := by decide +kernel
theorem dX7_join_172 : decode cX7_join 172 = .ok (.iload 8, 2) := by decide +kernel
theorem dX7_join_174 : decode cX7_join 174 = .ok (.invokevirtual 123, 3) := by decide +kernel
theorem dX7_join_177 : decode cX7_join 177 = .ok (.iastore, 1) := by decide +kernel
theorem dX7_join_178 : decode cX7_join 178 = .ok (.iinc 7 1, 3) := by decide +kernel
theorem dX7_join_181 : decode cX7_join 181 = .ok (.goto (-92), 3) := by decide +kernel
theorem dX7_join_184 : decode cX7_join 184 = .ok (.aload_n 0, 1) := by decide +kernel
theorem dX7_join_185 : decode cX7_join 185 = .ok (.iload_n 3, 1) := by decide +kernel
theorem dX7_join_186 : decode cX7_join 186 = .ok (.iload 4, 2) := by decide +kernel
theorem dX7_join_188 : decode cX7_join 188 = .ok (.iload 6, 2) := by decide +kernel
theorem dX7_join_190 : decode cX7_join 190 = .ok (.invokevirtual 109, 3) := by decide +kernel
theorem dX7_join_193 : decode cX7_join 193 = .ok (.iload 6, 2) := by decide +kernel
theorem dX7_join_195 : decode cX7_join 195 = .ok (.ireturn, 1) := by decide +kernel
set_option maxRecDepth 20000 in
theorem ggX7_mirror_X7_has : GoodIn wsX7_mirror wsX7_has := goodIn_r _ [9, 2, 10, 11, 8, 12, 24, 25, 26, 27, 28, 29, 30, 31, 32, 33, 34, 35, 36, 37, 38, 39, 40, 41, 42, 43, 44, 45, 46, 47, 48, 49, 50] (by decide +kernel) (by decide +kernel)
set_option maxRecDepth 20000 in
theorem gX7_mirror_X7_has : GoodIn wsX7_mirror (wsV RX7 120 RX7 yX7_has wsX7_has) := goodIn_app (goodIn_of _ (by decide +kernel)) ggX7_mirror_X7_has
set_option maxRecDepth 20000 in
theorem ggX7_mirror_X7_isSlot : GoodIn wsX7_mirror wsX7_isSlot := goodIn_r _ [12] (by decide +kernel) (by decide +kernel)
set_option maxRecDepth 20000 in
theorem gX7_mirror_X7_isSlot : GoodIn wsX7_mirror (va_wsS RX7 94 yX7_isSlot wsX7_isSlot) := goodIn_app (goodIn_of _ (by decide +kernel)) ggX7_mirror_X7_isSlot
set_option maxRecDepth 20000 in
theorem ggX7_mirror_X7_power : GoodIn wsX7_mirror wsX7_power := goodIn_r _ [15] (by decide +kernel) (by decide +kernel)
set_option maxRecDepth 20000 in
theorem gX7_mirror_X7_power : GoodIn wsX7_mirror (va_wsS RX7 98 yX7_power wsX7_power) := goodIn_app (goodIn_of _ (by decide +kernel)) ggX7_mirror_X7_power
set_option maxRecDepth 20000 in
theorem ggX7_mirror_X7_tells : GoodIn wsX7_mirror wsX7_tells := goodIn_r _ [19, 4, 24, 25, 26, 27, 28, 29, 30, 31, 32, 33, 34, 35, 36, 37, 38, 39, 40, 41, 42, 43, 44, 45, 46, 47, 48, 49, 50] (by decide +kernel) (by decide +kernel)
set_option maxRecDepth 20000 in
theorem gX7_mirror_X7_tells : GoodIn wsX7_mirror (wsV RX7 123 RX7 yX7_tells wsX7_tells) := goodIn_app (goodIn_of _ (by decide +kernel)) ggX7_mirror_X7_tells
set_option maxRecDepth 20000 in
theorem ggX7_mirror_X7_lay : GoodIn wsX7_mirror wsX7_lay := goodIn_r _ [23, 4, 2, 3, 13, 14, 8, 15, 24, 25, 26, 27, 28, 29, 30, 31, 32, 33, 34, 35, 36, 37, 38, 39, 40, 41, 42, 43, 44, 45, 46, 47, 48, 49, 50] (by decide +kernel) (by decide +kernel)
set_option maxRecDepth 20000 in
theorem gX7_mirror_X7_lay : GoodIn wsX7_mirror (wsV RX7 109 RX7 yX7_lay wsX7_lay) := goodIn_app (goodIn_of _ (by decide +kernel)) ggX7_mirror_X7_lay
theorem dX7_mirror_0 : decode cX7_mirror 0 = .ok (.aload_n 0, 1) := by decide +kernel
theorem dX7_mirror_1 : decode cX7_mirror 1 = .ok (.iconst 0, 1) := by decide +kernel
theorem dX7_mirror_2 : decode cX7_mirror 2 = .ok (.putfield 80, 3) := by decide +kernel
theorem dX7_mirror_5 : decode cX7_mirror 5 = .ok (.aload_n 0, 1) := by decide +kernel
theorem dX7_mirror_6 : decode cX7_mirror 6 = .ok (.iload_n 1, 1) := by decide +kernel
theorem dX7_mirror_7 : decode cX7_mirror 7 = .ok (.invokevirtual 120, 3) := by decide +kernel
theorem dX7_mirror_10 : decode cX7_mirror 10 = .ok (.ifCond .eq 10, 3) := by decide +kernel
theorem dX7_mirror_13 : decode cX7_mirror 13 = .ok (.iload_n 2, 1) := by decide +kernel
theorem dX7_mirror_14 : decode cX7_mirror 14 = .ok (.invokestatic 94, 3) := by decide +kernel
theorem dX7_mirror_17 : decode cX7_mirror 17 = .ok (.ifCond .ne 5, 3) := by decide +kernel
theorem dX7_mirror_20 : decode cX7_mirror 20 = .ok (.iconst 0, 1) := by decide +kernel
theorem dX7_mirror_21 : decode cX7_mirror 21 = .ok (.ireturn, 1) := by decide +kernel
theorem dX7_mirror_22 : decode cX7_mirror 22 = .ok (.aload_n 0, 1) := by decide +kernel
theorem dX7_mirror_23 : decode cX7_mirror 23 = .ok (.getfield 13, 3) := by decide +kernel
theorem dX7_mirror_26 : decode cX7_mirror 26 = .ok (.iload_n 1, 1) := by decide +kernel
theorem dX7_mirror_27 : decode cX7_mirror 27 = .ok (.iaload, 1) := by decide +kernel
theorem dX7_mirror_28 : decode cX7_mirror 28 = .ok (.istore_n 3, 1) := by decide +kernel
theorem dX7_mirror_29 : decode cX7_mirror 29 = .ok (.iconst 0, 1) := by decide +kernel
theorem dX7_mirror_30 : decode cX7_mirror 30 = .ok (.istore 4, 2) := by decide +kernel
theorem dX7_mirror_32 : decode cX7_mirror 32 = .ok (.iload 4, 2) := by decide +kernel
theorem dX7_mirror_34 : decode cX7_mirror 34 = .ok (.iload_n 3, 1) := by decide +kernel
theorem dX7_mirror_35 : decode cX7_mirror 35 = .ok (.aload_n 0, 1) := by decide +kernel
theorem dX7_mirror_36 : decode cX7_mirror 36 = .ok (.getfield 17, 3) := by decide +kernel
theorem dX7_mirror_39 : decode cX7_mirror 39 = .ok (.iload_n 1, 1) := by decide +kernel
theorem dX7_mirror_40 : decode cX7_mirror 40 = .ok (.iaload, 1) := by decide +kernel
theorem dX7_mirror_41 : decode cX7_mirror 41 = .ok (.invokestatic 98, 3) := by decide +kernel
theorem dX7_mirror_44 : decode cX7_mirror 44 = .ok (.if_icmp .ge 71, 3) := by decide +kernel
theorem dX7_mirror_47 : decode cX7_mirror 47 = .ok (.iconst 0, 1) := by decide +kernel
theorem dX7_mirror_48 : decode cX7_mirror 48 = .ok (.istore 5, 2) := by decide +kernel
theorem dX7_mirror_50 : decode cX7_mirror 50 = .ok (.iload 4, 2) := by decide +kernel
theorem dX7_mirror_52 : decode cX7_mirror 52 = .ok (.istore 6, 2) := by decide +kernel
theorem dX7_mirror_54 : decode cX7_mirror 54 = .ok (.iconst 0, 1) := by decide +kernel
theorem dX7_mirror_55 : decode cX7_mirror 55 = .ok (.istore 7, 2) := by decide +kernel
theorem dX7_mirror_57 : decode cX7_mirror 57 = .ok (.iload 7, 2) := by decide +kernel
theorem dX7_mirror_59 : decode cX7_mirror 59 = .ok (.aload_n 0, 1) := by decide +kernel
theorem dX7_mirror_60 : decode cX7_mirror 60 = .ok (.getfield 17, 3) := by decide +kernel
theorem dX7_mirror_63 : decode cX7_mirror 63 = .ok (.iload_n 1, 1) := by decide +kernel
theorem dX7_mirror_64 : decode cX7_mirror 64 = .ok (.iaload, 1) := by decide +kernel
theorem dX7_mirror_65 : decode cX7_mirror 65 = .ok (.if_icmp .ge 26, 3) := by decide +kernel
theorem dX7_mirror_68 : decode cX7_mirror 68 = .ok (.iload_n 3, 1) := by decide +kernel
theorem dX7_mirror_69 : decode cX7_mirror 69 = .ok (.iload 5, 2) := by decide +kernel
theorem dX7_mirror_71 : decode cX7_mirror 71 = .ok (.imul, 1) := by decide +kernel
theorem dX7_mirror_72 : decode cX7_mirror 72 = .ok (.iload 6, 2) := by decide +kernel
theorem dX7_mirror_74 : decode cX7_mirror 74 = .ok (.iload_n 3, 1) := by decide +kernel
theorem dX7_mirror_75 : decode cX7_mirror 75 = .ok (.irem, 1) := by decide +kernel
theorem dX7_mirror_76 : decode cX7_mirror 76 = .ok (.iadd, 1) := by decide +kernel
theorem dX7_mirror_77 : decode cX7_mirror 77 = .ok (.istore 5, 2) := by decide +kernel
theorem dX7_mirror_79 : decode cX7_mirror 79 = .ok (.iload 6, 2) := by decide +kernel
theorem dX7_mirror_81 : decode cX7_mirror 81 = .ok (.iload_n 3, 1) := by decide +kernel
theorem dX7_mirror_82 : decode cX7_mirror 82 = .ok (.idiv, 1) := by decide +kernel
theorem dX7_mirror_83 : decode cX7_mirror 83 = .ok (.istore 6, 2) := by decide +kernel
theorem dX7_mirror_85 : decode cX7_mirror 85 = .ok (.iinc 7 1, 3) := by decide +kernel
theorem dX7_mirror_88 : decode cX7_mirror 88 = .ok (.goto (-31), 3) := by decide +kernel
theorem dX7_mirror_91 : decode cX7_mirror 91 = .ok (.aload_n 0, 1) := by decide +kernel
theorem dX7_mirror_92 : decode cX7_mirror 92 = .ok (.getfield 20, 3) := by decide +kernel
theorem dX7_mirror_95 : decode cX7_mirror 95 = .ok (.sipush 162, 3) := by decide +kernel
theorem dX7_mirror_98 : decode cX7_mirror 98 = .ok (.iload 4, 2) := by decide +kernel
theorem dX7_mirror_100 : decode cX7_mirror 100 = .ok (.iadd, 1) := by decide +kernel
theorem dX7_mirror_101 : decode cX7_mirror 101 = .ok (.aload_n 0, 1) := by decide +kernel
theorem dX7_mirror_102 : decode cX7_mirror 102 = .ok (.iload_n 1, 1) := by decide +kernel
theorem dX7_mirror_103 : decode cX7_mirror 103 = .ok (.iload 5, 2) := by decide +kernel
theorem dX7_mirror_105 : decode cX7_mirror 105 = .ok (.invokevirtual 123, 3) := by decide +kernel
theorem dX7_mirror_108 : decode cX7_mirror 108 = .ok (.iastore, 1) := by decide +kernel
theorem dX7_mirror_109 : decode cX7_mirror 109 = .ok (.iinc 4 1, 3) := by decide +kernel
theorem dX7_mirror_112 : decode cX7_mirror 112 = .ok (.goto (-80), 3) := by decide +kernel
theorem dX7_mirror_115 : decode cX7_mirror 115 = .ok (.aload_n 0, 1) := by decide +kernel
theorem dX7_mirror_116 : decode cX7_mirror 116 = .ok (.iload_n 2, 1) := by decide +kernel
theorem dX7_mirror_117 : decode cX7_mirror 117 = .ok (.iload_n 3, 1) := by decide +kernel
theorem dX7_mirror_118 : decode cX7_mirror 118 = .ok (.aload_n 0, 1) := by decide +kernel
theorem dX7_mirror_119 : decode cX7_mirror 119 = .ok (.getfield 17, 3) := by decide +kernel
theorem dX7_mirror_122 : decode cX7_mirror 122 = .ok (.iload_n 1, 1) := by decide +kernel
theorem dX7_mirror_123 : decode cX7_mirror 123 = .ok (.iaload, 1) := by decide +kernel
theorem dX7_mirror_124 : decode cX7_mirror 124 = .ok (.invokevirtual 109, 3) := by decide +kernel
theorem dX7_mirror_127 : decode cX7_mirror 127 = .ok (.iconst 1, 1) := by decide +kernel
theorem dX7_mirror_128 : decode cX7_mirror 128 = .ok (.ireturn, 1) := by decide +kernel
set_option maxRecDepth 20000 in
theorem ggX7_rename_X7_taken : GoodIn wsX7_rename wsX7_taken := goodIn_r _ [11, 12, 2, 31, 32, 33, 34, 35, 36, 37, 38, 39, 40, 41, 42, 43, 44, 45, 46, 47, 48, 49, 50, 51, 52, 53, 54, 55, 56, 57] (by decide +kernel) (by decide +kernel)
set_option maxRecDepth 20000 in
theorem gX7_rename_X7_taken : GoodIn wsX7_rename (wsV RX7 102 RX7 yX7_taken wsX7_taken) := goodIn_app (goodIn_of _ (by decide +kernel)) ggX7_rename_X7_taken
set_option maxRecDepth 20000 in
theorem ggX7_rename_X7_has : GoodIn wsX7_rename wsX7_has := goodIn_r _ [16, 3, 17, 18, 10, 19, 31, 32, 33, 34, 35, 36, 37, 38, 39, 40, 41, 42, 43, 44, 45, 46, 47, 48, 49, 50, 51, 52, 53, 54, 55, 56, 57] (by decide +kernel) (by decide +kernel)
set_option maxRecDepth 20000 in
theorem gX7_rename_X7_has : GoodIn wsX7_rename (wsV RX7 120 RX7 yX7_has wsX7_has) := goodIn_app (goodIn_of _ (by decide +kernel)) ggX7_rename_X7_has
set_option maxRecDepth 20000 in
theorem ggX7_rename_X7_isSlot : GoodIn wsX7_rename wsX7_isSlot := goodIn_r _ [19] (by decide +kernel) (by decide +kernel)
set_option maxRecDepth 20000 in
theorem gX7_rename_X7_isSlot : GoodIn wsX7_rename (va_wsS RX7 94 yX7_isSlot wsX7_isSlot) := goodIn_app (goodIn_of _ (by decide +kernel)) ggX7_rename_X7_isSlot
set_option maxRecDepth 20000 in
theorem ggX7_rename_X7_power : GoodIn wsX7_rename wsX7_power := goodIn_r _ [22] (by decide +kernel) (by decide +kernel)
set_option maxRecDepth 20000 in
theorem gX7_rename_X7_power : GoodIn wsX7_rename (va_wsS RX7 98 yX7_power wsX7_power) := goodIn_app (goodIn_of _ (by decide +kernel)) ggX7_rename_X7_power
set_option maxRecDepth 20000 in
theorem ggX7_rename_X7_tells : GoodIn wsX7_rename wsX7_tells := goodIn_r _ [26, 6, 31, 32, 33, 34, 35, 36, 37, 38, 39, 40, 41, 42, 43, 44, 45, 46, 47, 48, 49, 50, 51, 52, 53, 54, 55, 56, 57] (by decide +kernel) (by decide +kernel)
set_option maxRecDepth 20000 in
theorem gX7_rename_X7_tells : GoodIn wsX7_rename (wsV RX7 123 RX7 yX7_tells wsX7_tells) := goodIn_app (goodIn_of _ (by decide +kernel)) ggX7_rename_X7_tells
set_option maxRecDepth 20000 in
theorem ggX7_rename_X7_lay : GoodIn wsX7_rename wsX7_lay := goodIn_r _ [30, 6, 3, 5, 20, 21, 10, 22, 31, 32, 33, 34, 35, 36, 37, 38, 39, 40, 41, 42, 43, 44, 45, 46, 47, 48, 49, 50, 51, 52, 53, 54, 55, 56, 57] (by decide +kernel) (by decide +kernel)
set_option maxRecDepth 20000 in
theorem gX7_rename_X7_lay : GoodIn wsX7_rename (wsV RX7 109 RX7 yX7_lay wsX7_lay) := goodIn_app (goodIn_of _ (by decide +kernel)) ggX7_rename_X7_lay
theorem dX7_rename_0 : decode cX7_rename 0 = .ok (.aload_n 0, 1) := by decide +kernel
theorem dX7_rename_1 : decode cX7_rename 1 = .ok (.iconst 0, 1) := by decide +kernel
theorem dX7_rename_2 : decode cX7_rename 2 = .ok (.putfield 80, 3) := by decide +kernel
theorem dX7_rename_5 : decode cX7_rename 5 = .ok (.aload_n 0, 1) := by decide +kernel
theorem dX7_rename_6 : decode cX7_rename 6 = .ok (.invokevirtual 102, 3) := by decide +kernel
theorem dX7_rename_9 : decode cX7_rename 9 = .ok (.aload_n 0, 1) := by decide +kernel
theorem dX7_rename_10 : decode cX7_rename 10 = .ok (.iload_n 1, 1) := by decide +kernel
theorem dX7_rename_11 : decode cX7_rename 11 = .ok (.invokevirtual 120, 3) := by decide +kernel
theorem dX7_rename_14 : decode cX7_rename 14 = .ok (.ifCond .eq 23, 3) := by decide +kernel
theorem dX7_rename_17 : decode cX7_rename 17 = .ok (.iload_n 2, 1) := by decide +kernel
theorem dX7_rename_18 : decode cX7_rename 18 = .ok (.invokestatic 94, 3) := by decide +kernel
theorem dX7_rename_21 : decode cX7_rename 21 = .ok (.ifCond .eq 16, 3) := by decide +kernel
theorem dX7_rename_24 : decode cX7_rename 24 = .ok (.aload_n 0, 1) := by decide +kernel
theorem dX7_rename_25 : decode cX7_rename 25 = .ok (.getfield 91, 3) := by decide +kernel
theorem dX7_rename_28 : decode cX7_rename 28 = .ok (.aload_n 0, 1) := by decide +kernel
theorem dX7_rename_29 : decode cX7_rename 29 = .ok (.getfield 13, 3) := by decide +kernel
theorem dX7_rename_32 : decode cX7_rename 32 = .ok (.iload_n 1, 1) := by decide +kernel
theorem dX7_rename_33 : decode cX7_rename 33 = .ok (.iaload, 1) := by decide +kernel
theorem dX7_rename_34 : decode cX7_rename 34 = .ok (.if_icmp .eq 5, 3) := by decide +kernel
theorem dX7_rename_37 : decode cX7_rename 37 = .ok (.iconst 0, 1) := by decide +kernel
theorem dX7_rename_38 : decode cX7_rename 38 = .ok (.ireturn, 1) := by decide +kernel
theorem dX7_rename_39 : decode cX7_rename 39 = .ok (.aload_n 0, 1) := by decide +kernel
theorem dX7_rename_40 : decode cX7_rename 40 = .ok (.getfield 13, 3) := by decide +kernel
theorem dX7_rename_43 : decode cX7_rename 43 = .ok (.iload_n 1, 1) := by decide +kernel
theorem dX7_rename_44 : decode cX7_rename 44 = .ok (.iaload, 1) := by decide +kernel
theorem dX7_rename_45 : decode cX7_rename 45 = .ok (.istore_n 3, 1) := by decide +kernel
theorem dX7_rename_46 : decode cX7_rename 46 = .ok (.iconst 0, 1) := by decide +kernel
theorem dX7_rename_47 : decode cX7_rename 47 = .ok (.istore 4, 2) := by decide +kernel
theorem dX7_rename_49 : decode cX7_rename 49 = .ok (.iconst 0, 1) := by decide +kernel
theorem dX7_rename_50 : decode cX7_rename 50 = .ok (.istore 5, 2) := by decide +kernel
theorem dX7_rename_52 : decode cX7_rename 52 = .ok (.iload 5, 2) := by decide +kernel
theorem dX7_rename_54 : decode cX7_rename 54 = .ok (.iload_n 3, 1) := by decide +kernel
theorem dX7_rename_55 : decode cX7_rename 55 = .ok (.if_icmp .ge 62, 3) := by decide +kernel
theorem dX7_rename_58 : decode cX7_rename 58 = .ok (.aload_n 0, 1) := by decide +kernel
theorem dX7_rename_59 : decode cX7_rename 59 = .ok (.getfield 7, 3) := by decide +kernel
theorem dX7_rename_62 : decode cX7_rename 62 = .ok (.iload 5, 2) := by decide +kernel
theorem dX7_rename_64 : decode cX7_rename 64 = .ok (.baload, 1) := by decide +kernel
theorem dX7_rename_65 : decode cX7_rename 65 = .ok (.ifCond .lt 30, 3) := by decide +kernel
theorem dX7_rename_68 : decode cX7_rename 68 = .ok (.aload_n 0, 1) := by decide +kernel
theorem dX7_rename_69 : decode cX7_rename 69 = .ok (.getfield 7, 3) := by decide +kernel
theorem dX7_rename_72 : decode cX7_rename 72 = .ok (.iload 5, 2) := by decide +kernel
theorem dX7_rename_74 : decode cX7_rename 74 = .ok (.baload, 1) := by decide +kernel
theorem dX7_rename_75 : decode cX7_rename 75 = .ok (.iload_n 3, 1) := by decide +kernel
theorem dX7_rename_76 : decode cX7_rename 76 = .ok (.if_icmp .ge 19, 3) := by decide +kernel
theorem dX7_rename_79 : decode cX7_rename 79 = .ok (.iload 4, 2) := by decide +kernel
theorem dX7_rename_81 : decode cX7_rename 81 = .ok (.aload_n 0, 1) := by decide +kernel
theorem dX7_rename_82 : decode cX7_rename 82 = .ok (.getfield 7, 3) := by decide +kernel
theorem dX7_rename_85 : decode cX7_rename 85 = .ok (.iload 5, 2) := by decide +kernel
theorem dX7_rename_87 : decode cX7_rename 87 = .ok (.baload, 1) := by decide +kernel
theorem dX7_rename_88 : decode cX7_rename 88 = .ok (.ishr, 1) := by decide +kernel
theorem dX7_rename_89 : decode cX7_rename 89 = .ok (.iconst 1, 1) := by decide +kernel
theorem dX7_rename_90 : decode cX7_rename 90 = .ok (.iand, 1) := by decide +kernel
theorem dX7_rename_91 : decode cX7_rename 91 = .ok (.iconst 1, 1) := by decide +kernel
theorem dX7_rename_92 : decode cX7_rename 92 = .ok (.if_icmp .ne 5, 3) := by decide +kernel
theorem dX7_rename_95 : decode cX7_rename 95 = .ok (.iconst 0, 1) := by decide +kernel
theorem dX7_rename_96 : decode cX7_rename 96 = .ok (.ireturn, 1) := by decide +kernel
theorem dX7_rename_97 : decode cX7_rename 97 = .ok (.iload 4, 2) := by decide +kernel
theorem dX7_rename_99 : decode cX7_rename 99 = .ok (.iconst 1, 1) := by decide +kernel
theorem dX7_rename_100 : decode cX7_rename 100 = .ok (.aload_n 0, 1) := by decide +kernel
theorem dX7_rename_101 : decode cX7_rename 101 = .ok (.getfield 7, 3) := by decide +kernel
theorem dX7_rename_104 : decode cX7_rename 104 = .ok (.iload 5, 2) := by decide +kernel
theorem dX7_rename_106 : decode cX7_rename 106 = .ok (.baload, 1) := by decide +kernel
theorem dX7_rename_107 : decode cX7_rename 107 = .ok (.ishl, 1) := by decide +kernel
theorem dX7_rename_108 : decode cX7_rename 108 = .ok (.ior, 1) := by decide +kernel
theorem dX7_rename_109 : decode cX7_rename 109 = .ok (.istore 4, 2) := by decide +kernel
theorem dX7_rename_111 : decode cX7_rename 111 = .ok (.iinc 5 1, 3) := by decide +kernel
theorem dX7_rename_114 : decode cX7_rename 114 = .ok (.goto (-62), 3) := by decide +kernel
theorem dX7_rename_117 : decode cX7_rename 117 = .ok (.iconst 0, 1) := by decide +kernel
theorem dX7_rename_118 : decode cX7_rename 118 = .ok (.istore 5, 2) := by decide +kernel
theorem dX7_rename_120 : decode cX7_rename 120 = .ok (.iload 5, 2) := by decide +kernel
theorem dX7_rename_122 : decode cX7_rename 122 = .ok (.iload_n 3, 1) := by decide +kernel
theorem dX7_rename_123 : decode cX7_rename 123 = .ok (.aload_n 0, 1) := by decide +kernel
theorem dX7_rename_124 : decode cX7_rename 124 = .ok (.getfield 17, 3) := by decide +kernel
theorem dX7_rename_127 : decode cX7_rename 127 = .ok (.iload_n 1, 1) := by decide +kernel
theorem dX7_rename_128 : decode cX7_rename 128 = .ok (.iaload, 1) := by decide +kernel
theorem dX7_rename_129 : decode cX7_rename 129 = .ok (.invokestatic 98, 3) := by decide +kernel
theorem dX7_rename_132 : decode cX7_rename 132 = .ok (.if_icmp .ge 95, 3) := by decide +kernel
theorem dX7_rename_135 : decode cX7_rename 135 = .ok (.iconst 0, 1) := by decide +kernel
theorem dX7_rename_136 : decode cX7_rename 136 = .ok (.istore 6, 2) := by decide +kernel
theorem dX7_rename_138 : decode cX7_rename 138 = .ok (.aload_n 0, 1) := by decide +kernel
theorem dX7_rename_139 : decode cX7_rename 139 = .ok (.getfield 17, 3) := by decide +kernel
theorem dX7_rename_142 : decode cX7_rename 142 = .ok (.iload_n 1, 1) := by decide +kernel
theorem dX7_rename_143 : decode cX7_rename 143 = .ok (.iaload, 1) := by decide +kernel
theorem dX7_rename_144 : decode cX7_rename 144 = .ok (.iconst 1, 1) := by decide +kernel
theorem dX7_rename_145 : decode cX7_rename 145 = .ok (.isub, 1) := by decide +kernel
theorem dX7_rename_146 : decode cX7_rename 146 = .ok (.istore 7, 2) := by decide +kernel
theorem dX7_rename_148 : decode cX7_rename 148 = .ok (.iload 7, 2) := by decide +kernel
theorem dX7_rename_150 : decode cX7_rename 150 = .ok (.ifCond .lt 32, 3) := by decide +kernel
theorem dX7_rename_153 : decode cX7_rename 153 = .ok (.iload_n 3, 1) := by decide +kernel
theorem dX7_rename_154 : decode cX7_rename 154 = .ok (.iload 6, 2) := by decide +kernel
theorem dX7_rename_156 : decode cX7_rename 156 = .ok (.imul, 1) := by decide +kernel
theorem dX7_rename_157 : decode cX7_rename 157 = .ok (.aload_n 0, 1) := by decide +kernel
theorem dX7_rename_158 : decode cX7_rename 158 = .ok (.getfield 7, 3) := by decide +kernel
theorem dX7_rename_161 : decode cX7_rename 161 = .ok (.iload 5, 2) := by decide +kernel
theorem dX7_rename_163 : decode cX7_rename 163 = .ok (.iload_n 3, 1) := by decide +kernel
theorem dX7_rename_164 : decode cX7_rename 164 = .ok (.iload 7, 2) := by decide +kernel
theorem dX7_rename_166 : decode cX7_rename 166 = .ok (.invokestatic 98, 3) := by decide +kernel
theorem dX7_rename_169 : decode cX7_rename 169 = .ok (.idiv, 1) := by decide +kernel
theorem dX7_rename_170 : decode cX7_rename 170 = .ok (.iload_n 3, 1) := by decide +kernel
theorem dX7_rename_171 : decode cX7_rename 171 = .ok (.irem, 1) := by decide +kernel
theorem dX7_rename_172 : decode cX7_rename 172 = .ok (.baload, 1) := by decide +kernel
theorem dX7_rename_173 : decode cX7_rename 173 = .ok (.iadd, 1) := by decide +kernel
theorem dX7_rename_174 : decode cX7_rename 174 = .ok (.istore 6, 2) := by decide +kernel
theorem dX7_rename_176 : decode cX7_rename 176 = .ok (.iinc 7 (-1), 3) := by decide +kernel
theorem dX7_rename_179 : decode cX7_rename 179 = .ok (.goto (-31), 3) := by decide +kernel
theorem dX7_rename_182 : decode cX7_rename 182 = .ok (.iconst 0, 1) := by decide +kernel
theorem dX7_rename_183 : decode cX7_rename 183 = .ok (.istore 7, 2) := by decide +kernel
theorem dX7_rename_185 : decode cX7_rename 185 = .ok (.aload_n 0, 1) := by decide +kernel
theorem dX7_rename_186 : decode cX7_rename 186 = .ok (.getfield 7, 3) := by decide +kernel
theorem dX7_rename_189 : decode cX7_rename 189 = .ok (.iload 7, 2) := by decide +kernel
theorem dX7_rename_191 : decode cX7_rename 191 = .ok (.baload, 1) := by decide +kernel
theorem dX7_rename_192 : decode cX7_rename 192 = .ok (.aload_n 0, 1) := by decide +kernel
theorem dX7_rename_193 : decode cX7_rename 193 = .ok (.iload_n 1, 1) := by decide +kernel
theorem dX7_rename_194 : decode cX7_rename 194 = .ok (.iload 6, 2) := by decide +kernel
theorem dX7_rename_196 : decode cX7_rename 196 = .ok (.invokevirtual 123, 3) := by decide +kernel
theorem dX7_rename_199 : decode cX7_rename 199 = .ok (.if_icmp .eq 9, 3) := by decide +kernel
theorem dX7_rename_202 : decode cX7_rename 202 = .ok (.iinc 7 1, 3) := by decide +kernel
theorem dX7_rename_205 : decode cX7_rename 205 = .ok (.goto (-20), 3) := by decide +kernel
theorem dX7_rename_208 : decode cX7_rename 208 = .ok (.aload_n 0, 1) := by decide +kernel
theorem dX7_rename_209 : decode cX7_rename 209 = .ok (.getfield 20, 3) := by decide +kernel
theorem dX7_rename_212 : decode cX7_rename 212 = .ok (.sipush 162, 3) := by decide +kernel
theorem dX7_rename_215 : decode cX7_rename 215 = .ok (.iload 5, 2) := by decide +kernel
theorem dX7_rename_217 : decode cX7_rename 217 = .ok (.iadd, 1) := by decide +kernel
theorem dX7_rename_218 : decode cX7_rename 218 = .ok (.iload 7, 2) := by decide +kernel
theorem dX7_rename_220 : decode cX7_rename 220 = .ok (.iastore, 1) := by decide +kernel
theorem dX7_rename_221 : decode cX7_rename 221 = .ok (.iinc 5 1, 3) := by decide +kernel
theorem dX7_rename_224 : decode cX7_rename 224 = .ok (.goto (-104), 3) := by decide +kernel
theorem dX7_rename_227 : decode cX7_rename 227 = .ok (.aload_n 0, 1) := by decide +kernel
theorem dX7_rename_228 : decode cX7_rename 228 = .ok (.iload_n 2, 1) := by decide +kernel
theorem dX7_rename_229 : decode cX7_rename 229 = .ok (.iload_n 3, 1) := by decide +kernel
theorem dX7_rename_230 : decode cX7_rename 230 = .ok (.aload_n 0, 1) := by decide +kernel
theorem dX7_rename_231 : decode cX7_rename 231 = .ok (.getfield 17, 3) := by decide +kernel
theorem dX7_rename_234 : decode cX7_rename 234 = .ok (.iload_n 1, 1) := by decide +kernel
theorem dX7_rename_235 : decode cX7_rename 235 = .ok (.iaload, 1) := by decide +kernel
theorem dX7_rename_236 : decode cX7_rename 236 = .ok (.invokevirtual 109, 3) := by decide +kernel
theorem dX7_rename_239 : decode cX7_rename 239 = .ok (.iconst 1, 1) := by decide +kernel
theorem dX7_rename_240 : decode cX7_rename 240 = .ok (.ireturn, 1) := by decide +kernel
set_option maxRecDepth 20000 in
theorem ggX7_isIdle_X7_power : GoodIn wsX7_isIdle wsX7_power := goodIn_r _ [5] (by decide +kernel) (by decide +kernel)
set_option maxRecDepth 20000 in
theorem gX7_isIdle_X7_power : GoodIn wsX7_isIdle (va_wsS RX7 98 yX7_power wsX7_power) := goodIn_app (goodIn_of _ (by decide +kernel)) ggX7_isIdle_X7_power
theorem dX7_isIdle_0 : decode cX7_isIdle 0 = .ok (.iload_n 1, 1) := by decide +kernel
theorem dX7_isIdle_1 : decode cX7_isIdle 1 = .ok (.iload_n 2, 1) := by decide +kernel
theorem dX7_isIdle_2 : decode cX7_isIdle 2 = .ok (.iconst 1, 1) := by decide +kernel
theorem dX7_isIdle_3 : decode cX7_isIdle 3 = .ok (.isub, 1) := by decide +kernel
theorem dX7_isIdle_4 : decode cX7_isIdle 4 = .ok (.invokestatic 98, 3) := by decide +kernel
theorem dX7_isIdle_7 : decode cX7_isIdle 7 = .ok (.istore 4, 2) := by decide +kernel
theorem dX7_isIdle_9 : decode cX7_isIdle 9 = .ok (.iconst 0, 1) := by decide +kernel
theorem dX7_isIdle_10 : decode cX7_isIdle 10 = .ok (.istore 5, 2) := by decide +kernel
theorem dX7_isIdle_12 : decode cX7_isIdle 12 = .ok (.iload 5, 2) := by decide +kernel
theorem dX7_isIdle_14 : decode cX7_isIdle 14 = .ok (.iload_n 1, 1) := by decide +kernel
theorem dX7_isIdle_15 : decode cX7_isIdle 15 = .ok (.iload 4, 2) := by decide +kernel
theorem dX7_isIdle_17 : decode cX7_isIdle 17 = .ok (.imul, 1) := by decide +kernel
theorem dX7_isIdle_18 : decode cX7_isIdle 18 = .ok (.if_icmp .ge 52, 3) := by decide +kernel
theorem dX7_isIdle_21 : decode cX7_isIdle 21 = .ok (.aload_n 0, 1) := by decide +kernel
theorem dX7_isIdle_22 : decode cX7_isIdle 22 = .ok (.getfield 20, 3) := by decide +kernel
theorem dX7_isIdle_25 : decode cX7_isIdle 25 = .ok (.sipush 162, 3) := by decide +kernel
theorem dX7_isIdle_28 : decode cX7_isIdle 28 = .ok (.iload 5, 2) := by decide +kernel
theorem dX7_isIdle_30 : decode cX7_isIdle 30 = .ok (.iadd, 1) := by decide +kernel
theorem dX7_isIdle_31 : decode cX7_isIdle 31 = .ok (.iaload, 1) := by decide +kernel
theorem dX7_isIdle_32 : decode cX7_isIdle 32 = .ok (.aload_n 0, 1) := by decide +kernel
theorem dX7_isIdle_33 : decode cX7_isIdle 33 = .ok (.getfield 20, 3) := by decide +kernel
theorem dX7_isIdle_36 : decode cX7_isIdle 36 = .ok (.sipush 162, 3) := by decide +kernel
theorem dX7_isIdle_39 : decode cX7_isIdle 39 = .ok (.iload_n 3, 1) := by decide +kernel
theorem dX7_isIdle_40 : decode cX7_isIdle 40 = .ok (.ifCond .eq 12, 3) := by decide +kernel
theorem dX7_isIdle_43 : decode cX7_isIdle 43 = .ok (.iload 5, 2) := by decide +kernel
theorem dX7_isIdle_45 : decode cX7_isIdle 45 = .ok (.iload_n 1, 1) := by decide +kernel
theorem dX7_isIdle_46 : decode cX7_isIdle 46 = .ok (.idiv, 1) := by decide +kernel
theorem dX7_isIdle_47 : decode cX7_isIdle 47 = .ok (.iload_n 1, 1) := by decide +kernel
theorem dX7_isIdle_48 : decode cX7_isIdle 48 = .ok (.imul, 1) := by decide +kernel
theorem dX7_isIdle_49 : decode cX7_isIdle 49 = .ok (.goto 8, 3) := by decide +kernel
theorem dX7_isIdle_52 : decode cX7_isIdle 52 = .ok (.iload 5, 2) := by decide +kernel
theorem dX7_isIdle_54 : decode cX7_isIdle 54 = .ok (.iload 4, 2) := by decide +kernel
theorem dX7_isIdle_56 : decode cX7_isIdle 56 = .ok (.irem, 1) := by decide +kernel
theorem dX7_isIdle_57 : decode cX7_isIdle 57 = .ok (.iadd, 1) := by decide +kernel
theorem dX7_isIdle_58 : decode cX7_isIdle 58 = .ok (.iaload, 1) := by decide +kernel
theorem dX7_isIdle_59 : decode cX7_isIdle 59 = .ok (.if_icmp .eq 5, 3) := by decide +kernel
theorem dX7_isIdle_62 : decode cX7_isIdle 62 = .ok (.iconst 0, 1) := by decide +kernel
theorem dX7_isIdle_63 : decode cX7_isIdle 63 = .ok (.ireturn, 1) := by decide +kernel
theorem dX7_isIdle_64 : decode cX7_isIdle 64 = .ok (.iinc 5 1, 3) := by decide +kernel
theorem dX7_isIdle_67 : decode cX7_isIdle 67 = .ok (.goto (-55), 3) := by decide +kernel
theorem dX7_isIdle_70 : decode cX7_isIdle 70 = .ok (.iconst 1, 1) := by decide +kernel
theorem dX7_isIdle_71 : decode cX7_isIdle 71 = .ok (.ireturn, 1) := by decide +kernel
set_option maxRecDepth 20000 in
theorem ggX7_trim_X7_has : GoodIn wsX7_trim wsX7_has := goodIn_r _ [9, 2, 10, 11, 8, 12, 28, 29, 30, 31, 32, 33, 34, 35, 36, 37, 38, 39, 40, 41, 42, 43, 44, 45, 46, 47, 48, 49, 50, 51, 52, 53, 54] (by decide +kernel) (by decide +kernel)
set_option maxRecDepth 20000 in
theorem gX7_trim_X7_has : GoodIn wsX7_trim (wsV RX7 120 RX7 yX7_has wsX7_has) := goodIn_app (goodIn_of _ (by decide +kernel)) ggX7_trim_X7_has
set_option maxRecDepth 20000 in
theorem ggX7_trim_X7_isSlot : GoodIn wsX7_trim wsX7_isSlot := goodIn_r _ [12] (by decide +kernel) (by decide +kernel)
set_option maxRecDepth 20000 in
theorem gX7_trim_X7_isSlot : GoodIn wsX7_trim (va_wsS RX7 94 yX7_isSlot wsX7_isSlot) := goodIn_app (goodIn_of _ (by decide +kernel)) ggX7_trim_X7_isSlot
set_option maxRecDepth 20000 in
theorem ggX7_trim_X7_power : GoodIn wsX7_trim wsX7_power := goodIn_r _ [15] (by decide +kernel) (by decide +kernel)
set_option maxRecDepth 20000 in
theorem gX7_trim_X7_power : GoodIn wsX7_trim (va_wsS RX7 98 yX7_power wsX7_power) := goodIn_app (goodIn_of _ (by decide +kernel)) ggX7_trim_X7_power
set_option maxRecDepth 20000 in
theorem ggX7_trim_X7_tells : GoodIn wsX7_trim wsX7_tells := goodIn_r _ [19, 4, 28, 29, 30, 31, 32, 33, 34, 35, 36, 37, 38, 39, 40, 41, 42, 43, 44, 45, 46, 47, 48, 49, 50, 51, 52, 53, 54] (by decide +kernel) (by decide +kernel)
set_option maxRecDepth 20000 in
theorem gX7_trim_X7_tells : GoodIn wsX7_trim (wsV RX7 123 RX7 yX7_tells wsX7_tells) := goodIn_app (goodIn_of _ (by decide +kernel)) ggX7_trim_X7_tells
set_option maxRecDepth 20000 in
theorem ggX7_trim_X7_isIdle : GoodIn wsX7_trim wsX7_isIdle := goodIn_r _ [23, 4, 13, 14, 8, 15, 28, 29, 30, 31, 32, 33, 34, 35, 36, 37, 38, 39, 40, 41, 42, 43, 44, 45, 46, 47, 48, 49, 50, 51, 52, 53, 54] (by decide +kernel) (by decide +kernel)
set_option maxRecDepth 20000 in
theorem gX7_trim_X7_isIdle : GoodIn wsX7_trim (wsV RX7 193 RX7 yX7_isIdle wsX7_isIdle) := goodIn_app (goodIn_of _ (by decide +kernel)) ggX7_trim_X7_isIdle
set_option maxRecDepth 20000 in
theorem ggX7_trim_X7_lay : GoodIn wsX7_trim wsX7_lay := goodIn_r _ [27, 4, 2, 3, 13, 14, 8, 15, 28, 29, 30, 31, 32, 33, 34, 35, 36, 37, 38, 39, 40, 41, 42, 43, 44, 45, 46, 47, 48, 49, 50, 51, 52, 53, 54] (by decide +kernel) (by decide +kernel)
set_option maxRecDepth 20000 in
theorem gX7_trim_X7_lay : GoodIn wsX7_trim (wsV RX7 109 RX7 yX7_lay wsX7_lay) := goodIn_app (goodIn_of _ (by decide +kernel)) ggX7_trim_X7_lay
theorem dX7_trim_0 : decode cX7_trim 0 = .ok (.aload_n 0, 1) := by decide +kernel
theorem dX7_trim_1 : decode cX7_trim 1 = .ok (.iconst 0, 1) := by decide +kernel
theorem dX7_trim_2 : decode cX7_trim 2 = .ok (.putfield 80, 3) := by decide +kernel
theorem dX7_trim_5 : decode cX7_trim 5 = .ok (.aload_n 0, 1) := by decide +kernel
theorem dX7_trim_6 : decode cX7_trim 6 = .ok (.iload_n 1, 1) := by decide +kernel
theorem dX7_trim_7 : decode cX7_trim 7 = .ok (.invokevirtual 120, 3) := by decide +kernel
theorem dX7_trim_10 : decode cX7_trim 10 = .ok (.ifCond .eq 10, 3) := by decide +kernel
theorem dX7_trim_13 : decode cX7_trim 13 = .ok (.iload_n 2, 1) := by decide +kernel
theorem dX7_trim_14 : decode cX7_trim 14 = .ok (.invokestatic 94, 3) := by decide +kernel
theorem dX7_trim_17 : decode cX7_trim 17 = .ok (.ifCond .ne 5, 3) := by decide +kernel
theorem dX7_trim_20 : decode cX7_trim 20 = .ok (.iconst (-1), 1) := by decide +kernel
theorem dX7_trim_21 : decode cX7_trim 21 = .ok (.ireturn, 1) := by decide +kernel
theorem dX7_trim_22 : decode cX7_trim 22 = .ok (.aload_n 0, 1) := by decide +kernel
theorem dX7_trim_23 : decode cX7_trim 23 = .ok (.getfield 13, 3) := by decide +kernel
theorem dX7_trim_26 : decode cX7_trim 26 = .ok (.iload_n 1, 1) := by decide +kernel
theorem dX7_trim_27 : decode cX7_trim 27 = .ok (.iaload, 1) := by decide +kernel
theorem dX7_trim_28 : decode cX7_trim 28 = .ok (.istore_n 3, 1) := by decide +kernel
theorem dX7_trim_29 : decode cX7_trim 29 = .ok (.aload_n 0, 1) := by decide +kernel
theorem dX7_trim_30 : decode cX7_trim 30 = .ok (.getfield 17, 3) := by decide +kernel
theorem dX7_trim_33 : decode cX7_trim 33 = .ok (.iload_n 1, 1) := by decide +kernel
theorem dX7_trim_34 : decode cX7_trim 34 = .ok (.iaload, 1) := by decide +kernel
theorem dX7_trim_35 : decode cX7_trim 35 = .ok (.istore 4, 2) := by decide +kernel
theorem dX7_trim_37 : decode cX7_trim 37 = .ok (.iconst 0, 1) := by decide +kernel
theorem dX7_trim_38 : decode cX7_trim 38 = .ok (.istore 5, 2) := by decide +kernel
theorem dX7_trim_40 : decode cX7_trim 40 = .ok (.iconst 0, 1) := by decide +kernel
theorem dX7_trim_41 : decode cX7_trim 41 = .ok (.istore 6, 2) := by decide +kernel
theorem dX7_trim_43 : decode cX7_trim 43 = .ok (.iload 6, 2) := by decide +kernel
theorem dX7_trim_45 : decode cX7_trim 45 = .ok (.iload_n 3, 1) := by decide +kernel
theorem dX7_trim_46 : decode cX7_trim 46 = .ok (.iload 4, 2) := by decide +kernel
theorem dX7_trim_48 : decode cX7_trim 48 = .ok (.invokestatic 98, 3) := by decide +kernel
theorem dX7_trim_51 : decode cX7_trim 51 = .ok (.if_icmp .ge 27, 3) := by decide +kernel
theorem dX7_trim_54 : decode cX7_trim 54 = .ok (.aload_n 0, 1) := by decide +kernel
theorem dX7_trim_55 : decode cX7_trim 55 = .ok (.getfield 20, 3) := by decide +kernel
theorem dX7_trim_58 : decode cX7_trim 58 = .ok (.sipush 162, 3) := by decide +kernel
theorem dX7_trim_61 : decode cX7_trim 61 = .ok (.iload 6, 2) := by decide +kernel
theorem dX7_trim_63 : decode cX7_trim 63 = .ok (.iadd, 1) := by decide +kernel
theorem dX7_trim_64 : decode cX7_trim 64 = .ok (.aload_n 0, 1) := by decide +kernel
theorem dX7_trim_65 : decode cX7_trim 65 = .ok (.iload_n 1, 1) := by decide +kernel
theorem dX7_trim_66 : decode cX7_trim 66 = .ok (.iload 6, 2) := by decide +kernel
theorem dX7_trim_68 : decode cX7_trim 68 = .ok (.invokevirtual 123, 3) := by decide +kernel
theorem dX7_trim_71 : decode cX7_trim 71 = .ok (.iastore, 1) := by decide +kernel
theorem dX7_trim_72 : decode cX7_trim 72 = .ok (.iinc 6 1, 3) := by decide +kernel
theorem dX7_trim_75 : decode cX7_trim 75 = .ok (.goto (-32), 3) := by decide +kernel
theorem dX7_trim_78 : decode cX7_trim 78 = .ok (.iload 4, 2) := by decide +kernel
theorem dX7_trim_80 : decode cX7_trim 80 = .ok (.iconst 1, 1) := by decide +kernel
theorem dX7_trim_81 : decode cX7_trim 81 = .ok (.if_icmp .le 23, 3) := by decide +kernel
theorem dX7_trim_84 : decode cX7_trim 84 = .ok (.aload_n 0, 1) := by decide +kernel
theorem dX7_trim_85 : decode cX7_trim 85 = .ok (.iload_n 3, 1) := by decide +kernel
theorem dX7_trim_86 : decode cX7_trim 86 = .ok (.iload 4, 2) := by decide +kernel
theorem dX7_trim_88 : decode cX7_trim 88 = .ok (.iconst 0, 1) := by decide +kernel
theorem dX7_trim_89 : decode cX7_trim 89 = .ok (.invokevirtual 193, 3) := by decide +kernel
theorem dX7_trim_92 : decode cX7_trim 92 = .ok (.ifCond .eq 12, 3) := by decide +kernel
theorem dX7_trim_95 : decode cX7_trim 95 = .ok (.iinc 4 (-1), 3) := by decide +kernel
theorem dX7_trim_98 : decode cX7_trim 98 = .ok (.iinc 5 1, 3) := by decide +kernel
theorem dX7_trim_101 : decode cX7_trim 101 = .ok (.goto (-23), 3) := by decide +kernel
theorem dX7_trim_104 : decode cX7_trim 104 = .ok (.iload 4, 2) := by decide +kernel
theorem dX7_trim_106 : decode cX7_trim 106 = .ok (.iconst 1, 1) := by decide +kernel
theorem dX7_trim_107 : decode cX7_trim 107 = .ok (.if_icmp .le 64, 3) := by decide +kernel
theorem dX7_trim_110 : decode cX7_trim 110 = .ok (.aload_n 0, 1) := by decide +kernel
theorem dX7_trim_111 : decode cX7_trim 111 = .ok (.iload_n 3, 1) := by decide +kernel
theorem dX7_trim_112 : decode cX7_trim 112 = .ok (.iload 4, 2) := by decide +kernel
theorem dX7_trim_114 : decode cX7_trim 114 = .ok (.iconst 1, 1) := by decide +kernel
theorem dX7_trim_115 : decode cX7_trim 115 = .ok (.invokevirtual 193, 3) := by decide +kernel
theorem dX7_trim_118 : decode cX7_trim 118 = .ok (.ifCond .eq 53, 3) := by decide +kernel
theorem dX7_trim_121 : decode cX7_trim 121 = .ok (.iinc 4 (-1), 3) := by decide +kernel
theorem dX7_trim_124 : decode cX7_trim 124 = .ok (.iconst 0, 1) := by decide +kernel
theorem dX7_trim_125 : decode cX7_trim 125 = .ok (.istore 6, 2) := by decide +kernel
theorem dX7_trim_127 : decode cX7_trim 127 = .ok (.iload 6, 2) := by decide +kernel
theorem dX7_trim_129 : decode cX7_trim 129 = .ok (.iload_n 3, 1) := by decide +kernel
theorem dX7_trim_130 : decode cX7_trim 130 = .ok (.iload 4, 2) := by decide +kernel
theorem dX7_trim_132 : decode cX7_trim 132 = .ok (.invokestatic 98, 3) := by decide +kernel
theorem dX7_trim_135 : decode cX7_trim 135 = .ok (.if_icmp .ge 33, 3) := by decide +kernel
theorem dX7_trim_138 : decode cX7_trim 138 = .ok (.aload_n 0, 1) := by decide +kernel
theorem dX7_trim_139 : decode cX7_trim 139 = .ok (.getfield 20, 3) := by decide +kernel
theorem dX7_trim_142 : decode cX7_trim 142 = .ok (.sipush 162, 3) := by decide +kernel
theorem dX7_trim_145 : decode cX7_trim 145 = .ok (.iload 6, 2) := by decide +kernel
theorem dX7_trim_147 : decode cX7_trim 147 = .ok (.iadd, 1) := by decide +kernel
theorem dX7_trim_148 : decode cX7_trim 148 = .ok (.aload_n 0, 1) := by decide +kernel
theorem dX7_trim_149 : decode cX7_trim 149 = .ok (.getfield 20, 3) := by decide +kernel
theorem dX7_trim_152 : decode cX7_trim 152 = .ok (.sipush 162, 3) := by decide +kernel
theorem dX7_trim_155 : decode cX7_trim 155 = .ok (.iload_n 3, 1) := by decide +kernel
theorem dX7_trim_156 : decode cX7_trim 156 = .ok (.iload 6, 2) := by decide +kernel
theorem dX7_trim_158 : decode cX7_trim 158 = .ok (.imul, 1) := by decide +kernel
theorem dX7_trim_159 : decode cX7_trim 159 = .ok (.iadd, 1) := by decide +kernel
theorem dX7_trim_160 : decode cX7_trim 160 = .ok (.iaload, 1) := by decide +kernel
theorem dX7_trim_161 : decode cX7_trim 161 = .ok (.iastore, 1) := by decide +kernel
theorem dX7_trim_162 : decode cX7_trim 162 = .ok (.iinc 6 1, 3) := by decide +kernel
theorem dX7_trim_165 : decode cX7_trim 165 = .ok (.goto (-38), 3) := by decide +kernel
theorem dX7_trim_168 : decode cX7_trim 168 = .ok (.goto (-64), 3) := by decide +kernel
theorem dX7_trim_171 : decode cX7_trim 171 = .ok (.aload_n 0, 1) := by decide +kernel
theorem dX7_trim_172 : decode cX7_trim 172 = .ok (.iload_n 2, 1) := by decide +kernel
theorem dX7_trim_173 : decode cX7_trim 173 = .ok (.iload_n 3, 1) := by decide +kernel
theorem dX7_trim_174 : decode cX7_trim 174 = .ok (.iload 4, 2) := by decide +kernel
theorem dX7_trim_176 : decode cX7_trim 176 = .ok (.invokevirtual 109, 3) := by decide +kernel
theorem dX7_trim_179 : decode cX7_trim 179 = .ok (.iload 5, 2) := by decide +kernel
theorem dX7_trim_181 : decode cX7_trim 181 = .ok (.ireturn, 1) := by decide +kernel
theorem dX7_count__0 : decode cX7_count_ 0 = .ok (.aload_n 0, 1) := by decide +kernel
theorem dX7_count__1 : decode cX7_count_ 1 = .ok (.iconst 0, 1) := by decide +kernel
theorem dX7_count__2 : decode cX7_count_ 2 = .ok (.putfield 80, 3) := by decide +kernel
theorem dX7_count__5 : decode cX7_count_ 5 = .ok (.iconst 0, 1) := by decide +kernel
theorem dX7_count__6 : decode cX7_count_ 6 = .ok (.istore_n 2, 1) := by decide +kernel
theorem dX7_count__7 : decode cX7_count_ 7 = .ok (.iload_n 1, 1) := by decide +kernel
theorem dX7_count__8 : decode cX7_count_ 8 = .ok (.tableswitch 71 0 2 #[28, 61, 66], 28) := by decide +kernel
theorem dX7_count__36 : decode cX7_count_ 36 = .ok (.iconst 0, 1) := by decide +kernel
theorem dX7_count__37 : decode cX7_count_ 37 = .ok (.istore_n 3, 1) := by decide +kernel
theorem dX7_count__38 : decode cX7_count_ 38 = .ok (.iload_n 3, 1) := by decide +kernel
theorem dX7_count__39 : decode cX7_count_ 39 = .ok (.bipush 6, 2) := by decide +kernel
theorem dX7_count__41 : decode cX7_count_ 41 = .ok (.if_icmp .ge 26, 3) := by decide +kernel
theorem dX7_count__44 : decode cX7_count_ 44 = .ok (.iload_n 2, 1) := by decide +kernel
theorem dX7_count__45 : decode cX7_count_ 45 = .ok (.aload_n 0, 1) := by decide +kernel
theorem dX7_count__46 : decode cX7_count_ 46 = .ok (.getfield 13, 3) := by decide +kernel
theorem dX7_count__49 : decode cX7_count_ 49 = .ok (.iload_n 3, 1) := by decide +kernel
theorem dX7_count__50 : decode cX7_count_ 50 = .ok (.iaload, 1) := by decide +kernel
theorem dX7_count__51 : decode cX7_count_ 51 = .ok (.ifCond .le 7, 3) := by decide +kernel
theorem dX7_count__54 : decode cX7_count_ 54 = .ok (.iconst 1, 1) := by decide +kernel
theorem dX7_count__55 : decode cX7_count_ 55 = .ok (.goto 4, 3) := by decide +kernel
theorem dX7_count__58 : decode cX7_count_ 58 = .ok (.iconst 0, 1) := by decide +kernel
theorem dX7_count__59 : decode cX7_count_ 59 = .ok (.iadd, 1) := by decide +kernel
theorem dX7_count__60 : decode cX7_count_ 60 = .ok (.istore_n 2, 1) := by decide +kernel
theorem dX7_count__61 : decode cX7_count_ 61 = .ok (.iinc 3 1, 3) := by decide +kernel
theorem dX7_count__64 : decode cX7_count_ 64 = .ok (.goto (-26), 3) := by decide +kernel
theorem dX7_count__67 : decode cX7_count_ 67 = .ok (.iload_n 2, 1) := by decide +kernel
theorem dX7_count__68 : decode cX7_count_ 68 = .ok (.ireturn, 1) := by decide +kernel
theorem dX7_count__69 : decode cX7_count_ 69 = .ok (.aload_n 0, 1) := by decide +kernel
theorem dX7_count__70 : decode cX7_count_ 70 = .ok (.getfield 84, 3) := by decide +kernel
theorem dX7_count__73 : decode cX7_count_ 73 = .ok (.ireturn, 1) := by decide +kernel
theorem dX7_count__74 : decode cX7_count_ 74 = .ok (.aload_n 0, 1) := by decide +kernel
theorem dX7_count__75 : decode cX7_count_ 75 = .ok (.getfield 113, 3) := by decide +kernel
theorem dX7_count__78 : decode cX7_count_ 78 = .ok (.ireturn, 1) := by decide +kernel
theorem dX7_count__79 : decode cX7_count_ 79 = .ok (.iconst (-1), 1) := by decide +kernel
theorem dX7_count__80 : decode cX7_count_ 80 = .ok (.ireturn, 1) := by decide +kernel
