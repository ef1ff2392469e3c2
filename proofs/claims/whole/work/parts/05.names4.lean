theorem dX5_chances_0 : decode cX5_chances 0 = .ok (.aload_n 0, 1) := by decide +kernel
theorem dX5_chances_1 : decode cX5_chances 1 = .ok (.invokevirtual 232, 3) := by decide +kernel
theorem dX5_chances_4 : decode cX5_chances 4 = .ok (.astore 4, 2) := by decide +kernel
theorem dX5_chances_6 : decode cX5_chances 6 = .ok (.aload 4, 2) := by decide +kernel
theorem dX5_chances_8 : decode cX5_chances 8 = .ok (.ifnull 14, 3) := by decide +kernel
theorem dX5_chances_11 : decode cX5_chances 11 = .ok (.iload_n 2, 1) := by decide +kernel
theorem dX5_chances_12 : decode cX5_chances 12 = .ok (.iconst 1, 1) := by decide +kernel
theorem dX5_chances_13 : decode cX5_chances 13 = .ok (.if_icmp .lt 9, 3) := by decide +kernel
theorem dX5_chances_16 : decode cX5_chances 16 = .ok (.iload_n 2, 1) := by decide +kernel
theorem dX5_chances_17 : decode cX5_chances 17 = .ok (.bipush 8, 2) := by decide +kernel
theorem dX5_chances_19 : decode cX5_chances 19 = .ok (.if_icmp .le 23, 3) := by decide +kernel
theorem dX5_chances_22 : decode cX5_chances 22 = .ok (.aload 4, 2) := by decide +kernel
theorem dX5_chances_24 : decode cX5_chances 24 = .ok (.ifnull 16, 3) := by decide +kernel
theorem dX5_chances_27 : decode cX5_chances 27 = .ok (.aload 4, 2) := by decide +kernel
theorem dX5_chances_29 : decode cX5_chances 29 = .ok (.iload_n 1, 1) := by decide +kernel
theorem dX5_chances_30 : decode cX5_chances 30 = .ok (.invokevirtual 175, 3) := by decide +kernel
theorem dX5_chances_33 : decode cX5_chances 33 = .ok (.ifCond .eq 7, 3) := by decide +kernel
theorem dX5_chances_36 : decode cX5_chances 36 = .ok (.iconst 1, 1) := by decide +kernel
theorem dX5_chances_37 : decode cX5_chances 37 = .ok (.goto 4, 3) := by decide +kernel
theorem dX5_chances_40 : decode cX5_chances 40 = .ok (.iconst 0, 1) := by decide +kernel
theorem dX5_chances_41 : decode cX5_chances 41 = .ok (.ireturn, 1) := by decide +kernel
theorem dX5_chances_42 : decode cX5_chances 42 = .ok (.iconst 0, 1) := by decide +kernel
theorem dX5_chances_43 : decode cX5_chances 43 = .ok (.istore 5, 2) := by decide +kernel
theorem dX5_chances_45 : decode cX5_chances 45 = .ok (.iconst 0, 1) := by decide +kernel
theorem dX5_chances_46 : decode cX5_chances 46 = .ok (.istore 6, 2) := by decide +kernel
theorem dX5_chances_48 : decode cX5_chances 48 = .ok (.iload 6, 2) := by decide +kernel
theorem dX5_chances_50 : decode cX5_chances 50 = .ok (.iconst 1, 1) := by decide +kernel
theorem dX5_chances_51 : decode cX5_chances 51 = .ok (.if_icmp .gt 84, 3) := by decide +kernel
theorem dX5_chances_54 : decode cX5_chances 54 = .ok (.iload 6, 2) := by decide +kernel
theorem dX5_chances_56 : decode cX5_chances 56 = .ok (.iconst 1, 1) := by decide +kernel
theorem dX5_chances_57 : decode cX5_chances 57 = .ok (.if_icmp .ne 7, 3) := by decide +kernel
theorem dX5_chances_60 : decode cX5_chances 60 = .ok (.iload_n 3, 1) := by decide +kernel
theorem dX5_chances_61 : decode cX5_chances 61 = .ok (.goto 7, 3) := by decide +kernel
theorem dX5_chances_64 : decode cX5_chances 64 = .ok (.bipush 10, 2) := by decide +kernel
theorem dX5_chances_66 : decode cX5_chances 66 = .ok (.iload_n 3, 1) := by decide +kernel
theorem dX5_chances_67 : decode cX5_chances 67 = .ok (.isub, 1) := by decide +kernel
theorem dX5_chances_68 : decode cX5_chances 68 = .ok (.istore 7, 2) := by decide +kernel
theorem dX5_chances_70 : decode cX5_chances 70 = .ok (.aload_n 0, 1) := by decide +kernel
theorem dX5_chances_71 : decode cX5_chances 71 = .ok (.aload 4, 2) := by decide +kernel
theorem dX5_chances_73 : decode cX5_chances 73 = .ok (.invokevirtual 138, 3) := by decide +kernel
theorem dX5_chances_76 : decode cX5_chances 76 = .ok (.aload_n 0, 1) := by decide +kernel
theorem dX5_chances_77 : decode cX5_chances 77 = .ok (.invokevirtual 232, 3) := by decide +kernel
theorem dX5_chances_80 : decode cX5_chances 80 = .ok (.astore 8, 2) := by decide +kernel
theorem dX5_chances_82 : decode cX5_chances 82 = .ok (.aload 8, 2) := by decide +kernel
theorem dX5_chances_84 : decode cX5_chances 84 = .ok (.ifnull 41, 3) := by decide +kernel
theorem dX5_chances_87 : decode cX5_chances 87 = .ok (.iload 7, 2) := by decide +kernel
theorem dX5_chances_89 : decode cX5_chances 89 = .ok (.ifCond .le 36, 3) := by decide +kernel
theorem dX5_chances_92 : decode cX5_chances 92 = .ok (.iload 6, 2) := by decide +kernel
theorem dX5_chances_94 : decode cX5_chances 94 = .ok (.iconst 1, 1) := by decide +kernel
theorem dX5_chances_95 : decode cX5_chances 95 = .ok (.if_icmp .ne 8, 3) := by decide +kernel
theorem dX5_chances_98 : decode cX5_chances 98 = .ok (.aload 8, 2) := by decide +kernel
theorem dX5_chances_100 : decode cX5_chances 100 = .ok (.invokevirtual 236, 3) := by decide +kernel
theorem dX5_chances_103 : decode cX5_chances 103 = .ok (.aload 8, 2) := by decide +kernel
theorem dX5_chances_105 : decode cX5_chances 105 = .ok (.invokevirtual 141, 3) := by decide +kernel
theorem dX5_chances_108 : decode cX5_chances 108 = .ok (.iload 5, 2) := by decide +kernel
theorem dX5_chances_110 : decode cX5_chances 110 = .ok (.iload 7, 2) := by decide +kernel
theorem dX5_chances_112 : decode cX5_chances 112 = .ok (.aload_n 0, 1) := by decide +kernel
theorem dX5_chances_113 : decode cX5_chances 113 = .ok (.iload_n 1, 1) := by decide +kernel
theorem dX5_chances_114 : decode cX5_chances 114 = .ok (.iload_n 2, 1) := by decide +kernel
theorem dX5_chances_115 : decode cX5_chances 115 = .ok (.iconst 1, 1) := by decide +kernel
theorem dX5_chances_116 : decode cX5_chances 116 = .ok (.isub, 1) := by decide +kernel
theorem dX5_chances_117 : decode cX5_chances 117 = .ok (.iload_n 3, 1) := by decide +kernel
theorem dX5_chances_118 : decode cX5_chances 118 = .ok (.invokestatic 203, 3) := by decide +kernel
theorem dX5_chances_121 : decode cX5_chances 121 = .ok (.imul, 1) := by decide +kernel
theorem dX5_chances_122 : decode cX5_chances 122 = .ok (.iadd, 1) := by decide +kernel
theorem dX5_chances_123 : decode cX5_chances 123 = .ok (.istore 5, 2) := by decide +kernel
theorem dX5_chances_125 : decode cX5_chances 125 = .ok (.aload_n 0, 1) := by decide +kernel
theorem dX5_chances_126 : decode cX5_chances 126 = .ok (.invokevirtual 239, 3) := by decide +kernel
theorem dX5_chances_129 : decode cX5_chances 129 = .ok (.iinc 6 1, 3) := by decide +kernel
theorem dX5_chances_132 : decode cX5_chances 132 = .ok (.goto (-84), 3) := by decide +kernel
theorem dX5_chances_135 : decode cX5_chances 135 = .ok (.iload 5, 2) := by decide +kernel
theorem dX5_chances_137 : decode cX5_chances 137 = .ok (.ireturn, 1) := by decide +kernel
theorem dX5_draw_0 : decode cX5_draw 0 = .ok (.ldc2_w 242, 3) := by decide +kernel
theorem dX5_draw_3 : decode cX5_draw 3 = .ok (.iload_n 0, 1) := by decide +kernel
theorem dX5_draw_4 : decode cX5_draw 4 = .ok (.i2l, 1) := by decide +kernel
theorem dX5_draw_5 : decode cX5_draw 5 = .ok (.lmul, 1) := by decide +kernel
theorem dX5_draw_6 : decode cX5_draw 6 = .ok (.ldc2_w 244, 3) := by decide +kernel
theorem dX5_draw_9 : decode cX5_draw 9 = .ok (.iload_n 1, 1) := by decide +kernel
theorem dX5_draw_10 : decode cX5_draw 10 = .ok (.i2l, 1) := by decide +kernel
theorem dX5_draw_11 : decode cX5_draw 11 = .ok (.lmul, 1) := by decide +kernel
theorem dX5_draw_12 : decode cX5_draw 12 = .ok (.ladd, 1) := by decide +kernel
theorem dX5_draw_13 : decode cX5_draw 13 = .ok (.lconst 1, 1) := by decide +kernel
theorem dX5_draw_14 : decode cX5_draw 14 = .ok (.ladd, 1) := by decide +kernel
theorem dX5_draw_15 : decode cX5_draw 15 = .ok (.lstore_n 2, 1) := by decide +kernel
theorem dX5_draw_16 : decode cX5_draw 16 = .ok (.lload_n 2, 1) := by decide +kernel
theorem dX5_draw_17 : decode cX5_draw 17 = .ok (.lload_n 2, 1) := by decide +kernel
theorem dX5_draw_18 : decode cX5_draw 18 = .ok (.lmul, 1) := by decide +kernel
theorem dX5_draw_19 : decode cX5_draw 19 = .ok (.ldc2_w 246, 3) := by decide +kernel
theorem dX5_draw_22 : decode cX5_draw 22 = .ok (.lrem, 1) := by decide +kernel
theorem dX5_draw_23 : decode cX5_draw 23 = .ok (.l2i, 1) := by decide +kernel
theorem dX5_draw_24 : decode cX5_draw 24 = .ok (.ireturn, 1) := by decide +kernel
theorem dX5_commonDivisor_0 : decode cX5_commonDivisor 0 = .ok (.iconst 0, 1) := by decide +kernel
theorem dX5_commonDivisor_1 : decode cX5_commonDivisor 1 = .ok (.istore_n 2, 1) := by decide +kernel
theorem dX5_commonDivisor_2 : decode cX5_commonDivisor 2 = .ok (.iload_n 2, 1) := by decide +kernel
theorem dX5_commonDivisor_3 : decode cX5_commonDivisor 3 = .ok (.bipush 100, 2) := by decide +kernel
theorem dX5_commonDivisor_5 : decode cX5_commonDivisor 5 = .ok (.if_icmp .ge 21, 3) := by decide +kernel
theorem dX5_commonDivisor_8 : decode cX5_commonDivisor 8 = .ok (.iload_n 1, 1) := by decide +kernel
theorem dX5_commonDivisor_9 : decode cX5_commonDivisor 9 = .ok (.ifCond .le 17, 3) := by decide +kernel
theorem dX5_commonDivisor_12 : decode cX5_commonDivisor 12 = .ok (.iload_n 0, 1) := by decide +kernel
theorem dX5_commonDivisor_13 : decode cX5_commonDivisor 13 = .ok (.iload_n 1, 1) := by decide +kernel
theorem dX5_commonDivisor_14 : decode cX5_commonDivisor 14 = .ok (.irem, 1) := by decide +kernel
theorem dX5_commonDivisor_15 : decode cX5_commonDivisor 15 = .ok (.istore_n 3, 1) := by decide +kernel
theorem dX5_commonDivisor_16 : decode cX5_commonDivisor 16 = .ok (.iload_n 1, 1) := by decide +kernel
theorem dX5_commonDivisor_17 : decode cX5_commonDivisor 17 = .ok (.istore_n 0, 1) := by decide +kernel
theorem dX5_commonDivisor_18 : decode cX5_commonDivisor 18 = .ok (.iload_n 3, 1) := by decide +kernel
theorem dX5_commonDivisor_19 : decode cX5_commonDivisor 19 = .ok (.istore_n 1, 1) := by decide +kernel
theorem dX5_commonDivisor_20 : decode cX5_commonDivisor 20 = .ok (.iinc 2 1, 3) := by decide +kernel
theorem dX5_commonDivisor_23 : decode cX5_commonDivisor 23 = .ok (.goto (-21), 3) := by decide +kernel
theorem dX5_commonDivisor_26 : decode cX5_commonDivisor 26 = .ok (.iload_n 0, 1) := by decide +kernel
theorem dX5_commonDivisor_27 : decode cX5_commonDivisor 27 = .ok (.ireturn, 1) := by decide +kernel
theorem dX5_remainder_0 : decode cX5_remainder 0 = .ok (.iload_n 1, 1) := by decide +kernel
theorem dX5_remainder_1 : decode cX5_remainder 1 = .ok (.iconst 1, 1) := by decide +kernel
theorem dX5_remainder_2 : decode cX5_remainder 2 = .ok (.if_icmp .ge 7, 3) := by decide +kernel
theorem dX5_remainder_5 : decode cX5_remainder 5 = .ok (.iconst 0, 1) := by decide +kernel
theorem dX5_remainder_6 : decode cX5_remainder 6 = .ok (.goto 6, 3) := by decide +kernel
theorem dX5_remainder_9 : decode cX5_remainder 9 = .ok (.iload_n 0, 1) := by decide +kernel
theorem dX5_remainder_10 : decode cX5_remainder 10 = .ok (.iload_n 1, 1) := by decide +kernel
theorem dX5_remainder_11 : decode cX5_remainder 11 = .ok (.irem, 1) := by decide +kernel
theorem dX5_remainder_12 : decode cX5_remainder 12 = .ok (.ireturn, 1) := by decide +kernel
theorem dX5_isIn_0 : decode cX5_isIn 0 = .ok (.iload_n 0, 1) := by decide +kernel
theorem dX5_isIn_1 : decode cX5_isIn 1 = .ok (.iload_n 1, 1) := by decide +kernel
theorem dX5_isIn_2 : decode cX5_isIn 2 = .ok (.if_icmp .lt 12, 3) := by decide +kernel
theorem dX5_isIn_5 : decode cX5_isIn 5 = .ok (.iload_n 0, 1) := by decide +kernel
theorem dX5_isIn_6 : decode cX5_isIn 6 = .ok (.iload_n 2, 1) := by decide +kernel
theorem dX5_isIn_7 : decode cX5_isIn 7 = .ok (.if_icmp .gt 7, 3) := by decide +kernel
theorem dX5_isIn_10 : decode cX5_isIn 10 = .ok (.iconst 1, 1) := by decide +kernel
theorem dX5_isIn_11 : decode cX5_isIn 11 = .ok (.goto 4, 3) := by decide +kernel
theorem dX5_isIn_14 : decode cX5_isIn 14 = .ok (.iconst 0, 1) := by decide +kernel
theorem dX5_isIn_15 : decode cX5_isIn 15 = .ok (.ireturn, 1) := by decide +kernel
theorem dX5_hasBit_0 : decode cX5_hasBit 0 = .ok (.iload_n 1, 1) := by decide +kernel
theorem dX5_hasBit_1 : decode cX5_hasBit 1 = .ok (.ifCond .lt 15, 3) := by decide +kernel
theorem dX5_hasBit_4 : decode cX5_hasBit 4 = .ok (.iload_n 0, 1) := by decide +kernel
theorem dX5_hasBit_5 : decode cX5_hasBit 5 = .ok (.iload_n 1, 1) := by decide +kernel
theorem dX5_hasBit_6 : decode cX5_hasBit 6 = .ok (.ishr, 1) := by decide +kernel
theorem dX5_hasBit_7 : decode cX5_hasBit 7 = .ok (.iconst 1, 1) := by decide +kernel
theorem dX5_hasBit_8 : decode cX5_hasBit 8 = .ok (.iand, 1) := by decide +kernel
theorem dX5_hasBit_9 : decode cX5_hasBit 9 = .ok (.ifCond .eq 7, 3) := by decide +kernel
theorem dX5_hasBit_12 : decode cX5_hasBit 12 = .ok (.iconst 1, 1) := by decide +kernel
theorem dX5_hasBit_13 : decode cX5_hasBit 13 = .ok (.goto 4, 3) := by decide +kernel
theorem dX5_hasBit_16 : decode cX5_hasBit 16 = .ok (.iconst 0, 1) := by decide +kernel
theorem dX5_hasBit_17 : decode cX5_hasBit 17 = .ok (.ireturn, 1) := by decide +kernel
theorem dX5_cutBelief_0 : decode cX5_cutBelief 0 = .ok (.iconst 0, 1) := by decide +kernel
theorem dX5_cutBelief_1 : decode cX5_cutBelief 1 = .ok (.bipush 9, 2) := by decide +kernel
theorem dX5_cutBelief_3 : decode cX5_cutBelief 3 = .ok (.iload_n 0, 1) := by decide +kernel
theorem dX5_cutBelief_4 : decode cX5_cutBelief 4 = .ok (.invokestatic 248, 3) := by decide +kernel
theorem dX5_cutBelief_7 : decode cX5_cutBelief 7 = .ok (.invokestatic 253, 3) := by decide +kernel
theorem dX5_cutBelief_10 : decode cX5_cutBelief 10 = .ok (.ireturn, 1) := by decide +kernel
theorem dX5_of_0 : decode cX5_of 0 = .ok (.iload_n 1, 1) := by decide +kernel
theorem dX5_of_1 : decode cX5_of 1 = .ok (.ifCond .lt 15, 3) := by decide +kernel
theorem dX5_of_4 : decode cX5_of 4 = .ok (.iload_n 1, 1) := by decide +kernel
theorem dX5_of_5 : decode cX5_of 5 = .ok (.aload_n 0, 1) := by decide +kernel
theorem dX5_of_6 : decode cX5_of 6 = .ok (.arraylength, 1) := by decide +kernel
theorem dX5_of_7 : decode cX5_of 7 = .ok (.if_icmp .ge 9, 3) := by decide +kernel
theorem dX5_of_10 : decode cX5_of 10 = .ok (.aload_n 0, 1) := by decide +kernel
theorem dX5_of_11 : decode cX5_of 11 = .ok (.iload_n 1, 1) := by decide +kernel
theorem dX5_of_12 : decode cX5_of 12 = .ok (.iaload, 1) := by decide +kernel
theorem dX5_of_13 : decode cX5_of 13 = .ok (.goto 4, 3) := by decide +kernel
theorem dX5_of_16 : decode cX5_of 16 = .ok (.iconst 0, 1) := by decide +kernel
theorem dX5_of_17 : decode cX5_of 17 = .ok (.ireturn, 1) := by decide +kernel
theorem dX5_put_0 : decode cX5_put 0 = .ok (.iload_n 1, 1) := by decide +kernel
theorem dX5_put_1 : decode cX5_put 1 = .ok (.ifCond .lt 13, 3) := by decide +kernel
theorem dX5_put_4 : decode cX5_put 4 = .ok (.iload_n 1, 1) := by decide +kernel
theorem dX5_put_5 : decode cX5_put 5 = .ok (.aload_n 0, 1) := by decide +kernel
theorem dX5_put_6 : decode cX5_put 6 = .ok (.arraylength, 1) := by decide +kernel
theorem dX5_put_7 : decode cX5_put 7 = .ok (.if_icmp .ge 7, 3) := by decide +kernel
theorem dX5_put_10 : decode cX5_put 10 = .ok (.aload_n 0, 1) := by decide +kernel
theorem dX5_put_11 : decode cX5_put 11 = .ok (.iload_n 1, 1) := by decide +kernel
theorem dX5_put_12 : decode cX5_put 12 = .ok (.iload_n 2, 1) := by decide +kernel
theorem dX5_put_13 : decode cX5_put 13 = .ok (.iastore, 1) := by decide +kernel
theorem dX5_put_14 : decode cX5_put 14 = .ok (.return_, 1) := by decide +kernel
set_option maxRecDepth 20000 in
theorem ggX6_init_X6_begins : GoodIn wsX6_init wsX6_begins := goodIn_r _ [25, 7, 8, 41, 42, 43, 44, 45, 46, 47, 48, 49, 50, 51, 52, 53, 54, 55, 56, 57] (by decide +kernel) (by decide +kernel)
set_option maxRecDepth 20000 in
theorem gX6_init_X6_begins : GoodIn wsX6_init (wsV RX6 46 RX6 yX6_begins wsX6_begins) := goodIn_app (goodIn_of _ (by decide +kernel)) ggX6_init_X6_begins
set_option maxRecDepth 20000 in
theorem ggX6_init_X6_stands : GoodIn wsX6_init wsX6_stands := goodIn_r _ [29, 7, 8, 41, 42, 43, 44, 45, 46, 47, 48, 49, 50, 51, 52, 53, 54, 55, 56, 57] (by decide +kernel) (by decide +kernel)
set_option maxRecDepth 20000 in
theorem gX6_init_X6_stands : GoodIn wsX6_init (wsV RX6 49 RX6 yX6_stands wsX6_stands) := goodIn_app (goodIn_of _ (by decide +kernel)) ggX6_init_X6_stands
set_option maxRecDepth 20000 in
theorem ggX6_init_X6_isTold : GoodIn wsX6_init wsX6_isTold := goodIn_r _ [33, 7, 8, 41, 42, 43, 44, 45, 46, 47, 48, 49, 50, 51, 52, 53, 54, 55, 56, 57] (by decide +kernel) (by decide +kernel)
set_option maxRecDepth 20000 in
theorem gX6_init_X6_isTold : GoodIn wsX6_init (wsV RX6 54 RX6 yX6_isTold wsX6_isTold) := goodIn_app (goodIn_of _ (by decide +kernel)) ggX6_init_X6_isTold
set_option maxRecDepth 20000 in
theorem ggX6_init_X6_lays : GoodIn wsX6_init wsX6_lays := goodIn_r _ [37, 6, 7, 9, 8, 38, 39, 40, 41, 42, 43, 44, 45, 46, 47, 48, 49, 50, 51, 52, 53, 54, 55, 56, 57] (by decide +kernel) (by decide +kernel)
set_option maxRecDepth 20000 in
theorem gX6_init_X6_lays : GoodIn wsX6_init (wsV RX6 60 RX6 yX6_lays wsX6_lays) := goodIn_app (goodIn_of _ (by decide +kernel)) ggX6_init_X6_lays
theorem dX6_init_0 : decode cX6_init 0 = .ok (.aload_n 0, 1) := by decide +kernel
theorem dX6_init_1 : decode cX6_init 1 = .ok (.invokespecial 1, 3) := by decide +kernel
theorem dX6_init_4 : decode cX6_init 4 = .ok (.aload_n 0, 1) := by decide +kernel
theorem dX6_init_5 : decode cX6_init 5 = .ok (.sipush 200, 3) := by decide +kernel
theorem dX6_init_8 : decode cX6_init 8 = .ok (.newarray .int, 2) := by decide +kernel
theorem dX6_init_10 : decode cX6_init 10 = .ok (.putfield 7, 3) := by decide +kernel
theorem dX6_init_13 : decode cX6_init 13 = .ok (.aload_n 0, 1) := by decide +kernel
theorem dX6_init_14 : decode cX6_init 14 = .ok (.bipush 16, 2) := by decide +kernel
theorem dX6_init_16 : decode cX6_init 16 = .ok (.newarray .int, 2) := by decide +kernel
theorem dX6_init_18 : decode cX6_init 18 = .ok (.putfield 13, 3) := by decide +kernel
theorem dX6_init_21 : decode cX6_init 21 = .ok (.aload_n 0, 1) := by decide +kernel
theorem dX6_init_22 : decode cX6_init 22 = .ok (.bipush 16, 2) := by decide +kernel
theorem dX6_init_24 : decode cX6_init 24 = .ok (.newarray .int, 2) := by decide +kernel
theorem dX6_init_26 : decode cX6_init 26 = .ok (.putfield 16, 3) := by decide +kernel
theorem dX6_init_29 : decode cX6_init 29 = .ok (.aload_n 0, 1) := by decide +kernel
theorem dX6_init_30 : decode cX6_init 30 = .ok (.bipush 56, 2) := by decide +kernel
theorem dX6_init_32 : decode cX6_init 32 = .ok (.newarray .int, 2) := by decide +kernel
theorem dX6_init_34 : decode cX6_init 34 = .ok (.putfield 19, 3) := by decide +kernel
theorem dX6_init_37 : decode cX6_init 37 = .ok (.aload_n 0, 1) := by decide +kernel
theorem dX6_init_38 : decode cX6_init 38 = .ok (.bipush 56, 2) := by decide +kernel
theorem dX6_init_40 : decode cX6_init 40 = .ok (.newarray .int, 2) := by decide +kernel
theorem dX6_init_42 : decode cX6_init 42 = .ok (.putfield 22, 3) := by decide +kernel
theorem dX6_init_45 : decode cX6_init 45 = .ok (.aload_n 0, 1) := by decide +kernel
theorem dX6_init_46 : decode cX6_init 46 = .ok (.sipush 448, 3) := by decide +kernel
theorem dX6_init_49 : decode cX6_init 49 = .ok (.newarray .int, 2) := by decide +kernel
theorem dX6_init_51 : decode cX6_init 51 = .ok (.putfield 25, 3) := by decide +kernel
theorem dX6_init_54 : decode cX6_init 54 = .ok (.aload_n 0, 1) := by decide +kernel
theorem dX6_init_55 : decode cX6_init 55 = .ok (.bipush 112, 2) := by decide +kernel
theorem dX6_init_57 : decode cX6_init 57 = .ok (.newarray .int, 2) := by decide +kernel
theorem dX6_init_59 : decode cX6_init 59 = .ok (.putfield 28, 3) := by decide +kernel
theorem dX6_init_62 : decode cX6_init 62 = .ok (.aload_n 0, 1) := by decide +kernel
theorem dX6_init_63 : decode cX6_init 63 = .ok (.bipush 12, 2) := by decide +kernel
theorem dX6_init_65 : decode cX6_init 65 = .ok (.newarray .int, 2) := by decide +kernel
theorem dX6_init_67 : decode cX6_init 67 = .ok (.putfield 31, 3) := by decide +kernel
theorem dX6_init_70 : decode cX6_init 70 = .ok (.aload_n 0, 1) := by decide +kernel
theorem dX6_init_71 : decode cX6_init 71 = .ok (.bipush 42, 2) := by decide +kernel
theorem dX6_init_73 : decode cX6_init 73 = .ok (.newarray .int, 2) := by decide +kernel
theorem dX6_init_75 : decode cX6_init 75 = .ok (.putfield 34, 3) := by decide +kernel
theorem dX6_init_78 : decode cX6_init 78 = .ok (.aload_n 0, 1) := by decide +kernel
theorem dX6_init_79 : decode cX6_init 79 = .ok (.bipush 56, 2) := by decide +kernel
theorem dX6_init_81 : decode cX6_init 81 = .ok (.newarray .int, 2) := by decide +kernel
theorem dX6_init_83 : decode cX6_init 83 = .ok (.putfield 37, 3) := by decide +kernel
theorem dX6_init_86 : decode cX6_init 86 = .ok (.aload_n 0, 1) := by decide +kernel
theorem dX6_init_87 : decode cX6_init 87 = .ok (.bipush 6, 2) := by decide +kernel
theorem dX6_init_89 : decode cX6_init 89 = .ok (.newarray .int, 2) := by decide +kernel
theorem dX6_init_91 : decode cX6_init 91 = .ok (.putfield 40, 3) := by decide +kernel
theorem dX6_init_94 : decode cX6_init 94 = .ok (.aload_n 0, 1) := by decide +kernel
theorem dX6_init_95 : decode cX6_init 95 = .ok (.bipush 6, 2) := by decide +kernel
theorem dX6_init_97 : decode cX6_init 97 = .ok (.newarray .int, 2) := by decide +kernel
theorem dX6_init_99 : decode cX6_init 99 = .ok (.putfield 43, 3) := by decide +kernel
theorem dX6_init_102 : decode cX6_init 102 = .ok (.aload_n 0, 1) := by decide +kernel
theorem dX6_init_103 : decode cX6_init 103 = .ok (.invokevirtual 46, 3) := by decide +kernel
theorem dX6_init_106 : decode cX6_init 106 = .ok (.aload_n 0, 1) := by decide +kernel
theorem dX6_init_107 : decode cX6_init 107 = .ok (.iconst 0, 1) := by decide +kernel
theorem dX6_init_108 : decode cX6_init 108 = .ok (.bipush 9, 2) := by decide +kernel
theorem dX6_init_110 : decode cX6_init 110 = .ok (.invokevirtual 49, 3) := by decide +kernel
theorem dX6_init_113 : decode cX6_init 113 = .ok (.aload_n 0, 1) := by decide +kernel
theorem dX6_init_114 : decode cX6_init 114 = .ok (.iconst 1, 1) := by decide +kernel
theorem dX6_init_115 : decode cX6_init 115 = .ok (.iconst 0, 1) := by decide +kernel
theorem dX6_init_116 : decode cX6_init 116 = .ok (.invokevirtual 49, 3) := by decide +kernel
theorem dX6_init_119 : decode cX6_init 119 = .ok (.aload_n 0, 1) := by decide +kernel
theorem dX6_init_120 : decode cX6_init 120 = .ok (.iconst 2, 1) := by decide +kernel
theorem dX6_init_121 : decode cX6_init 121 = .ok (.iconst 1, 1) := by decide +kernel
theorem dX6_init_122 : decode cX6_init 122 = .ok (.invokevirtual 49, 3) := by decide +kernel
theorem dX6_init_125 : decode cX6_init 125 = .ok (.aload_n 0, 1) := by decide +kernel
theorem dX6_init_126 : decode cX6_init 126 = .ok (.iconst 0, 1) := by decide +kernel
theorem dX6_init_127 : decode cX6_init 127 = .ok (.iconst 1, 1) := by decide +kernel
theorem dX6_init_128 : decode cX6_init 128 = .ok (.invokevirtual 49, 3) := by decide +kernel
theorem dX6_init_131 : decode cX6_init 131 = .ok (.aload_n 0, 1) := by decide +kernel
theorem dX6_init_132 : decode cX6_init 132 = .ok (.iconst 3, 1) := by decide +kernel
theorem dX6_init_133 : decode cX6_init 133 = .ok (.iconst 2, 1) := by decide +kernel
theorem dX6_init_134 : decode cX6_init 134 = .ok (.invokevirtual 49, 3) := by decide +kernel
theorem dX6_init_137 : decode cX6_init 137 = .ok (.aload_n 0, 1) := by decide +kernel
theorem dX6_init_138 : decode cX6_init 138 = .ok (.iconst 1, 1) := by decide +kernel
theorem dX6_init_139 : decode cX6_init 139 = .ok (.iconst 3, 1) := by decide +kernel
theorem dX6_init_140 : decode cX6_init 140 = .ok (.invokevirtual 49, 3) := by decide +kernel
theorem dX6_init_143 : decode cX6_init 143 = .ok (.aload_n 0, 1) := by decide +kernel
theorem dX6_init_144 : decode cX6_init 144 = .ok (.iconst 5, 1) := by decide +kernel
theorem dX6_init_145 : decode cX6_init 145 = .ok (.ldc 53, 2) := by decide +kernel
theorem dX6_init_147 : decode cX6_init 147 = .ok (.invokevirtual 54, 3) := by decide +kernel
theorem dX6_init_150 : decode cX6_init 150 = .ok (.aload_n 0, 1) := by decide +kernel
theorem dX6_init_151 : decode cX6_init 151 = .ok (.iconst 3, 1) := by decide +kernel
theorem dX6_init_152 : decode cX6_init 152 = .ok (.ldc 57, 2) := by decide +kernel
theorem dX6_init_154 : decode cX6_init 154 = .ok (.invokevirtual 54, 3) := by decide +kernel
theorem dX6_init_157 : decode cX6_init 157 = .ok (.aload_n 0, 1) := by decide +kernel
theorem dX6_init_158 : decode cX6_init 158 = .ok (.iconst 4, 1) := by decide +kernel
theorem dX6_init_159 : decode cX6_init 159 = .ok (.ldc 58, 2) := by decide +kernel
theorem dX6_init_161 : decode cX6_init 161 = .ok (.invokevirtual 54, 3) := by decide +kernel
theorem dX6_init_164 : decode cX6_init 164 = .ok (.aload_n 0, 1) := by decide +kernel
theorem dX6_init_165 : decode cX6_init 165 = .ok (.iconst 5, 1) := by decide +kernel
theorem dX6_init_166 : decode cX6_init 166 = .ok (.ldc 59, 2) := by decide +kernel
theorem dX6_init_168 : decode cX6_init 168 = .ok (.invokevirtual 54, 3) := by decide +kernel
theorem dX6_init_171 : decode cX6_init 171 = .ok (.aload_n 0, 1) := by decide +kernel
theorem dX6_init_172 : decode cX6_init 172 = .ok (.invokevirtual 60, 3) := by decide +kernel
theorem dX6_init_175 : decode cX6_init 175 = .ok (.return_, 1) := by decide +kernel
theorem dX6_in_0 : decode cX6_in 0 = .ok (.iload_n 0, 1) := by decide +kernel
theorem dX6_in_1 : decode cX6_in 1 = .ok (.iload_n 1, 1) := by decide +kernel
theorem dX6_in_2 : decode cX6_in 2 = .ok (.if_icmp .lt 12, 3) := by decide +kernel
theorem dX6_in_5 : decode cX6_in 5 = .ok (.iload_n 0, 1) := by decide +kernel
theorem dX6_in_6 : decode cX6_in 6 = .ok (.iload_n 2, 1) := by decide +kernel
theorem dX6_in_7 : decode cX6_in 7 = .ok (.if_icmp .gt 7, 3) := by decide +kernel
theorem dX6_in_10 : decode cX6_in 10 = .ok (.iconst 1, 1) := by decide +kernel
theorem dX6_in_11 : decode cX6_in 11 = .ok (.goto 4, 3) := by decide +kernel
theorem dX6_in_14 : decode cX6_in 14 = .ok (.iconst 0, 1) := by decide +kernel
theorem dX6_in_15 : decode cX6_in 15 = .ok (.ireturn, 1) := by decide +kernel
set_option maxRecDepth 20000 in
theorem ggX6_isCourtier_X6_in : GoodIn wsX6_isCourtier wsX6_in := goodIn_r _ [5] (by decide +kernel) (by decide +kernel)
set_option maxRecDepth 20000 in
theorem gX6_isCourtier_X6_in : GoodIn wsX6_isCourtier (va_wsS RX6 63 yX6_in wsX6_in) := goodIn_app (goodIn_of _ (by decide +kernel)) ggX6_isCourtier_X6_in
theorem dX6_isCourtier_0 : decode cX6_isCourtier 0 = .ok (.iload_n 1, 1) := by decide +kernel
theorem dX6_isCourtier_1 : decode cX6_isCourtier 1 = .ok (.iconst 0, 1) := by decide +kernel
theorem dX6_isCourtier_2 : decode cX6_isCourtier 2 = .ok (.aload_n 0, 1) := by decide +kernel
theorem dX6_isCourtier_3 : decode cX6_isCourtier 3 = .ok (.getfield 13, 3) := by decide +kernel
theorem dX6_isCourtier_6 : decode cX6_isCourtier 6 = .ok (.iconst 0, 1) := by decide +kernel
theorem dX6_isCourtier_7 : decode cX6_isCourtier 7 = .ok (.iaload, 1) := by decide +kernel
theorem dX6_isCourtier_8 : decode cX6_isCourtier 8 = .ok (.iconst 1, 1) := by decide +kernel
theorem dX6_isCourtier_9 : decode cX6_isCourtier 9 = .ok (.isub, 1) := by decide +kernel
theorem dX6_isCourtier_10 : decode cX6_isCourtier 10 = .ok (.invokestatic 63, 3) := by decide +kernel
theorem dX6_isCourtier_13 : decode cX6_isCourtier 13 = .ok (.ireturn, 1) := by decide +kernel
set_option maxRecDepth 20000 in
theorem ggX6_isNews_X6_in : GoodIn wsX6_isNews wsX6_in := goodIn_r _ [5] (by decide +kernel) (by decide +kernel)
set_option maxRecDepth 20000 in
theorem gX6_isNews_X6_in : GoodIn wsX6_isNews (va_wsS RX6 63 yX6_in wsX6_in) := goodIn_app (goodIn_of _ (by decide +kernel)) ggX6_isNews_X6_in
theorem dX6_isNews_0 : decode cX6_isNews 0 = .ok (.iload_n 1, 1) := by decide +kernel
theorem dX6_isNews_1 : decode cX6_isNews 1 = .ok (.iconst 0, 1) := by decide +kernel
theorem dX6_isNews_2 : decode cX6_isNews 2 = .ok (.aload_n 0, 1) := by decide +kernel
theorem dX6_isNews_3 : decode cX6_isNews 3 = .ok (.getfield 13, 3) := by decide +kernel
theorem dX6_isNews_6 : decode cX6_isNews 6 = .ok (.iconst 1, 1) := by decide +kernel
theorem dX6_isNews_7 : decode cX6_isNews 7 = .ok (.iaload, 1) := by decide +kernel
theorem dX6_isNews_8 : decode cX6_isNews 8 = .ok (.iconst 1, 1) := by decide +kernel
theorem dX6_isNews_9 : decode cX6_isNews 9 = .ok (.isub, 1) := by decide +kernel
theorem dX6_isNews_10 : decode cX6_isNews 10 = .ok (.invokestatic 63, 3) := by decide +kernel
theorem dX6_isNews_13 : decode cX6_isNews 13 = .ok (.ireturn, 1) := by decide +kernel
set_option maxRecDepth 20000 in
theorem ggX6_write_X6_in : GoodIn wsX6_write wsX6_in := goodIn_r _ [6] (by decide +kernel) (by decide +kernel)
set_option maxRecDepth 20000 in
theorem gX6_write_X6_in : GoodIn wsX6_write (va_wsS RX6 63 yX6_in wsX6_in) := goodIn_app (goodIn_of _ (by decide +kernel)) ggX6_write_X6_in
theorem dX6_write_0 : decode cX6_write 0 = .ok (.iload_n 1, 1) := by decide +kernel
theorem dX6_write_1 : decode cX6_write 1 = .ok (.bipush 32, 2) := by decide +kernel
theorem dX6_write_3 : decode cX6_write 3 = .ok (.bipush 126, 2) := by decide +kernel
theorem dX6_write_5 : decode cX6_write 5 = .ok (.invokestatic 63, 3) := by decide +kernel
theorem dX6_write_8 : decode cX6_write 8 = .ok (.ifCond .ne 5, 3) := by decide +kernel
theorem dX6_write_11 : decode cX6_write 11 = .ok (.iconst (-1), 1) := by decide +kernel
theorem dX6_write_12 : decode cX6_write 12 = .ok (.ireturn, 1) := by decide +kernel
theorem dX6_write_13 : decode cX6_write 13 = .ok (.aload_n 0, 1) := by decide +kernel
theorem dX6_write_14 : decode cX6_write 14 = .ok (.getfield 67, 3) := by decide +kernel
theorem dX6_write_17 : decode cX6_write 17 = .ok (.sipush 200, 3) := by decide +kernel
theorem dX6_write_20 : decode cX6_write 20 = .ok (.if_icmp .ne 6, 3) := by decide +kernel
theorem dX6_write_23 : decode cX6_write 23 = .ok (.bipush (-3), 2) := by decide +kernel
theorem dX6_write_25 : decode cX6_write 25 = .ok (.ireturn, 1) := by decide +kernel
theorem dX6_write_26 : decode cX6_write 26 = .ok (.aload_n 0, 1) := by decide +kernel
theorem dX6_write_27 : decode cX6_write 27 = .ok (.getfield 7, 3) := by decide +kernel
theorem dX6_write_30 : decode cX6_write 30 = .ok (.aload_n 0, 1) := by decide +kernel
theorem dX6_write_31 : decode cX6_write 31 = .ok (.getfield 67, 3) := by decide +kernel
theorem dX6_write_34 : decode cX6_write 34 = .ok (.iload_n 1, 1) := by decide +kernel
theorem dX6_write_35 : decode cX6_write 35 = .ok (.iastore, 1) := by decide +kernel
theorem dX6_write_36 : decode cX6_write 36 = .ok (.aload_n 0, 1) := by decide +kernel
theorem dX6_write_37 : decode cX6_write 37 = .ok (.dup, 1) := by decide +kernel
theorem dX6_write_38 : decode cX6_write 38 = .ok (.getfield 67, 3) := by decide +kernel
theorem dX6_write_41 : decode cX6_write 41 = .ok (.iconst 1, 1) := by decide +kernel
theorem dX6_write_42 : decode cX6_write 42 = .ok (.iadd, 1) := by decide +kernel
theorem dX6_write_43 : decode cX6_write 43 = .ok (.putfield 67, 3) := by decide +kernel
theorem dX6_write_46 : decode cX6_write 46 = .ok (.aload_n 0, 1) := by decide +kernel
theorem dX6_write_47 : decode cX6_write 47 = .ok (.getfield 67, 3) := by decide +kernel
theorem dX6_write_50 : decode cX6_write 50 = .ok (.ireturn, 1) := by decide +kernel
theorem dX6_wipe_0 : decode cX6_wipe 0 = .ok (.aload_n 0, 1) := by decide +kernel
theorem dX6_wipe_1 : decode cX6_wipe 1 = .ok (.getfield 67, 3) := by decide +kernel
theorem dX6_wipe_4 : decode cX6_wipe 4 = .ok (.istore_n 1, 1) := by decide +kernel
theorem dX6_wipe_5 : decode cX6_wipe 5 = .ok (.aload_n 0, 1) := by decide +kernel
theorem dX6_wipe_6 : decode cX6_wipe 6 = .ok (.iconst 0, 1) := by decide +kernel
theorem dX6_wipe_7 : decode cX6_wipe 7 = .ok (.putfield 67, 3) := by decide +kernel
theorem dX6_wipe_10 : decode cX6_wipe 10 = .ok (.iload_n 1, 1) := by decide +kernel
theorem dX6_wipe_11 : decode cX6_wipe 11 = .ok (.ireturn, 1) := by decide +kernel
theorem dX6_letterAt_0 : decode cX6_letterAt 0 = .ok (.iload_n 1, 1) := by decide +kernel
theorem dX6_letterAt_1 : decode cX6_letterAt 1 = .ok (.aload_n 0, 1) := by decide +kernel
theorem dX6_letterAt_2 : decode cX6_letterAt 2 = .ok (.getfield 67, 3) := by decide +kernel
theorem dX6_letterAt_5 : decode cX6_letterAt 5 = .ok (.if_icmp .ge 12, 3) := by decide +kernel
theorem dX6_letterAt_8 : decode cX6_letterAt 8 = .ok (.aload_n 0, 1) := by decide +kernel
theorem dX6_letterAt_9 : decode cX6_letterAt 9 = .ok (.getfield 7, 3) := by decide +kernel
theorem dX6_letterAt_12 : decode cX6_letterAt 12 = .ok (.iload_n 1, 1) := by decide +kernel
theorem dX6_letterAt_13 : decode cX6_letterAt 13 = .ok (.iaload, 1) := by decide +kernel
theorem dX6_letterAt_14 : decode cX6_letterAt 14 = .ok (.goto 4, 3) := by decide +kernel
theorem dX6_letterAt_17 : decode cX6_letterAt 17 = .ok (.iconst (-1), 1) := by decide +kernel
theorem dX6_letterAt_18 : decode cX6_letterAt 18 = .ok (.ireturn, 1) := by decide +kernel
set_option maxRecDepth 20000 in
theorem ggX6_isFigure_X6_in : GoodIn wsX6_isFigure wsX6_in := goodIn_r _ [4] (by decide +kernel) (by decide +kernel)
set_option maxRecDepth 20000 in
theorem gX6_isFigure_X6_in : GoodIn wsX6_isFigure (va_wsS RX6 63 yX6_in wsX6_in) := goodIn_app (goodIn_of _ (by decide +kernel)) ggX6_isFigure_X6_in
theorem dX6_isFigure_0 : decode cX6_isFigure 0 = .ok (.iload_n 0, 1) := by decide +kernel
theorem dX6_isFigure_1 : decode cX6_isFigure 1 = .ok (.bipush 48, 2) := by decide +kernel
theorem dX6_isFigure_3 : decode cX6_isFigure 3 = .ok (.bipush 57, 2) := by decide +kernel
theorem dX6_isFigure_5 : decode cX6_isFigure 5 = .ok (.invokestatic 63, 3) := by decide +kernel
theorem dX6_isFigure_8 : decode cX6_isFigure 8 = .ok (.ireturn, 1) := by decide +kernel
set_option maxRecDepth 20000 in
theorem ggX6_number_X6_letterAt : GoodIn wsX6_number wsX6_letterAt := goodIn_r _ [6, 7, 8, 15, 16, 17, 18, 19, 20, 21, 22, 23, 24, 25, 26, 27, 28, 29, 30, 31] (by decide +kernel) (by decide +kernel)
set_option maxRecDepth 20000 in
theorem gX6_number_X6_letterAt : GoodIn wsX6_number (wsV RX6 74 RX6 yX6_letterAt wsX6_letterAt) := goodIn_app (goodIn_of _ (by decide +kernel)) ggX6_number_X6_letterAt
set_option maxRecDepth 20000 in
theorem ggX6_number_X6_isFigure : GoodIn wsX6_number wsX6_isFigure := goodIn_r _ [11, 12, 13, 5, 14] (by decide +kernel) (by decide +kernel)
set_option maxRecDepth 20000 in
theorem gX6_number_X6_isFigure : GoodIn wsX6_number (va_wsS RX6 78 yX6_isFigure wsX6_isFigure) := goodIn_app (goodIn_of _ (by decide +kernel)) ggX6_number_X6_isFigure
set_option maxRecDepth 20000 in
theorem ggX6_number_X6_in : GoodIn wsX6_number wsX6_in := goodIn_r _ [14] (by decide +kernel) (by decide +kernel)
set_option maxRecDepth 20000 in
theorem gX6_number_X6_in : GoodIn wsX6_number (va_wsS RX6 63 yX6_in wsX6_in) := goodIn_app (goodIn_of _ (by decide +kernel)) ggX6_number_X6_in
theorem dX6_number_0 : decode cX6_number 0 = .ok (.aload_n 0, 1) := by decide +kernel
theorem dX6_number_1 : decode cX6_number 1 = .ok (.aload_n 0, 1) := by decide +kernel
theorem dX6_number_2 : decode cX6_number 2 = .ok (.getfield 71, 3) := by decide +kernel
theorem dX6_number_5 : decode cX6_number 5 = .ok (.invokevirtual 74, 3) := by decide +kernel
theorem dX6_number_8 : decode cX6_number 8 = .ok (.invokestatic 78, 3) := by decide +kernel
theorem dX6_number_11 : decode cX6_number 11 = .ok (.ifCond .ne 5, 3) := by decide +kernel
theorem dX6_number_14 : decode cX6_number 14 = .ok (.iconst (-1), 1) := by decide +kernel
theorem dX6_number_15 : decode cX6_number 15 = .ok (.ireturn, 1) := by decide +kernel
theorem dX6_number_16 : decode cX6_number 16 = .ok (.aload_n 0, 1) := by decide +kernel
theorem dX6_number_17 : decode cX6_number 17 = .ok (.aload_n 0, 1) := by decide +kernel
theorem dX6_number_18 : decode cX6_number 18 = .ok (.getfield 71, 3) := by decide +kernel
theorem dX6_number_21 : decode cX6_number 21 = .ok (.invokevirtual 74, 3) := by decide +kernel
theorem dX6_number_24 : decode cX6_number 24 = .ok (.bipush 48, 2) := by decide +kernel
theorem dX6_number_26 : decode cX6_number 26 = .ok (.isub, 1) := by decide +kernel
theorem dX6_number_27 : decode cX6_number 27 = .ok (.istore 4, 2) := by decide +kernel
theorem dX6_number_29 : decode cX6_number 29 = .ok (.aload_n 0, 1) := by decide +kernel
theorem dX6_number_30 : decode cX6_number 30 = .ok (.dup, 1) := by decide +kernel
theorem dX6_number_31 : decode cX6_number 31 = .ok (.getfield 71, 3) := by decide +kernel
theorem dX6_number_34 : decode cX6_number 34 = .ok (.iconst 1, 1) := by decide +kernel
theorem dX6_number_35 : decode cX6_number 35 = .ok (.iadd, 1) := by decide +kernel
theorem dX6_number_36 : decode cX6_number 36 = .ok (.putfield 71, 3) := by decide +kernel
theorem dX6_number_39 : decode cX6_number 39 = .ok (.aload_n 0, 1) := by decide +kernel
theorem dX6_number_40 : decode cX6_number 40 = .ok (.aload_n 0, 1) := by decide +kernel
theorem dX6_number_41 : decode cX6_number 41 = .ok (.getfield 71, 3) := by decide +kernel
theorem dX6_number_44 : decode cX6_number 44 = .ok (.invokevirtual 74, 3) := by decide +kernel
theorem dX6_number_47 : decode cX6_number 47 = .ok (.invokestatic 78, 3) := by decide +kernel
theorem dX6_number_50 : decode cX6_number 50 = .ok (.ifCond .eq 32, 3) := by decide +kernel
theorem dX6_number_53 : decode cX6_number 53 = .ok (.bipush 10, 2) := by decide +kernel
theorem dX6_number_55 : decode cX6_number 55 = .ok (.iload 4, 2) := by decide +kernel
theorem dX6_number_57 : decode cX6_number 57 = .ok (.imul, 1) := by decide +kernel
theorem dX6_number_58 : decode cX6_number 58 = .ok (.aload_n 0, 1) := by decide +kernel
theorem dX6_number_59 : decode cX6_number 59 = .ok (.aload_n 0, 1) := by decide +kernel
theorem dX6_number_60 : decode cX6_number 60 = .ok (.getfield 71, 3) := by decide +kernel
theorem dX6_number_63 : decode cX6_number 63 = .ok (.invokevirtual 74, 3) := by decide +kernel
theorem dX6_number_66 : decode cX6_number 66 = .ok (.iadd, 1) := by decide +kernel
theorem dX6_number_67 : decode cX6_number 67 = .ok (.bipush 48, 2) := by decide +kernel
theorem dX6_number_69 : decode cX6_number 69 = .ok (.isub, 1) := by decide +kernel
theorem dX6_number_70 : decode cX6_number 70 = .ok (.istore 4, 2) := by decide +kernel
theorem dX6_number_72 : decode cX6_number 72 = .ok (.aload_n 0, 1) := by decide +kernel
theorem dX6_number_73 : decode cX6_number 73 = .ok (.dup, 1) := by decide +kernel
theorem dX6_number_74 : decode cX6_number 74 = .ok (.getfield 71, 3) := by decide +kernel
theorem dX6_number_77 : decode cX6_number 77 = .ok (.iconst 1, 1) := by decide +kernel
theorem dX6_number_78 : decode cX6_number 78 = .ok (.iadd, 1) := by decide +kernel
theorem dX6_number_79 : decode cX6_number 79 = .ok (.putfield 71, 3) := by decide +kernel
theorem dX6_number_82 : decode cX6_number 82 = .ok (.iload 4, 2) := by decide +kernel
theorem dX6_number_84 : decode cX6_number 84 = .ok (.iload_n 1, 1) := by decide +kernel
theorem dX6_number_85 : decode cX6_number 85 = .ok (.iload_n 2, 1) := by decide +kernel
theorem dX6_number_86 : decode cX6_number 86 = .ok (.invokestatic 63, 3) := by decide +kernel
theorem dX6_number_89 : decode cX6_number 89 = .ok (.ifCond .eq 19, 3) := by decide +kernel
theorem dX6_number_92 : decode cX6_number 92 = .ok (.aload_n 0, 1) := by decide +kernel
theorem dX6_number_93 : decode cX6_number 93 = .ok (.aload_n 0, 1) := by decide +kernel
theorem dX6_number_94 : decode cX6_number 94 = .ok (.getfield 71, 3) := by decide +kernel
theorem dX6_number_97 : decode cX6_number 97 = .ok (.invokevirtual 74, 3) := by decide +kernel
theorem dX6_number_100 : decode cX6_number 100 = .ok (.iload_n 3, 1) := by decide +kernel
theorem dX6_number_101 : decode cX6_number 101 = .ok (.if_icmp .ne 7, 3) := by decide +kernel
theorem dX6_number_104 : decode cX6_number 104 = .ok (.iconst 1, 1) := by decide +kernel
theorem dX6_number_105 : decode cX6_number 105 = .ok (.goto 4, 3) := by decide +kernel
theorem dX6_number_108 : decode cX6_number 108 = .ok (.iconst 0, 1) := by decide +kernel
theorem dX6_number_109 : decode cX6_number 109 = .ok (.istore 5, 2) := by decide +kernel
theorem dX6_number_111 : decode cX6_number 111 = .ok (.aload_n 0, 1) := by decide +kernel
theorem dX6_number_112 : decode cX6_number 112 = .ok (.dup, 1) := by decide +kernel
theorem dX6_number_113 : decode cX6_number 113 = .ok (.getfield 71, 3) := by decide +kernel
theorem dX6_number_116 : decode cX6_number 116 = .ok (.iconst 1, 1) := by decide +kernel
theorem dX6_number_117 : decode cX6_number 117 = .ok (.iadd, 1) := by decide +kernel
theorem dX6_number_118 : decode cX6_number 118 = .ok (.putfield 71, 3) := by decide +kernel
theorem dX6_number_121 : decode cX6_number 121 = .ok (.iload 5, 2) := by decide +kernel
theorem dX6_number_123 : decode cX6_number 123 = .ok (.ifCond .eq 8, 3) := by decide +kernel
theorem dX6_number_126 : decode cX6_number 126 = .ok (.iload 4, 2) := by decide +kernel
theorem dX6_number_128 : decode cX6_number 128 = .ok (.goto 4, 3) := by decide +kernel
theorem dX6_number_131 : decode cX6_number 131 = .ok (.iconst (-1), 1) := by decide +kernel
theorem dX6_number_132 : decode cX6_number 132 = .ok (.ireturn, 1) := by decide +kernel
theorem dX6_begins_0 : decode cX6_begins 0 = .ok (.iconst 0, 1) := by decide +kernel
theorem dX6_begins_1 : decode cX6_begins 1 = .ok (.istore_n 1, 1) := by decide +kernel
theorem dX6_begins_2 : decode cX6_begins 2 = .ok (.iload_n 1, 1) := by decide +kernel
theorem dX6_begins_3 : decode cX6_begins 3 = .ok (.bipush 16, 2) := by decide +kernel
theorem dX6_begins_5 : decode cX6_begins 5 = .ok (.if_icmp .ge 16, 3) := by decide +kernel
theorem dX6_begins_8 : decode cX6_begins 8 = .ok (.aload_n 0, 1) := by decide +kernel
theorem dX6_begins_9 : decode cX6_begins 9 = .ok (.getfield 16, 3) := by decide +kernel
theorem dX6_begins_12 : decode cX6_begins 12 = .ok (.iload_n 1, 1) := by decide +kernel
theorem dX6_begins_13 : decode cX6_begins 13 = .ok (.iconst 0, 1) := by decide +kernel
theorem dX6_begins_14 : decode cX6_begins 14 = .ok (.iastore, 1) := by decide +kernel
theorem dX6_begins_15 : decode cX6_begins 15 = .ok (.iinc 1 1, 3) := by decide +kernel
theorem dX6_begins_18 : decode cX6_begins 18 = .ok (.goto (-16), 3) := by decide +kernel
theorem dX6_begins_21 : decode cX6_begins 21 = .ok (.iconst 0, 1) := by decide +kernel
theorem dX6_begins_22 : decode cX6_begins 22 = .ok (.istore_n 1, 1) := by decide +kernel
theorem dX6_begins_23 : decode cX6_begins 23 = .ok (.iload_n 1, 1) := by decide +kernel
theorem dX6_begins_24 : decode cX6_begins 24 = .ok (.bipush 56, 2) := by decide +kernel
theorem dX6_begins_26 : decode cX6_begins 26 = .ok (.if_icmp .ge 16, 3) := by decide +kernel
theorem dX6_begins_29 : decode cX6_begins 29 = .ok (.aload_n 0, 1) := by decide +kernel
theorem dX6_begins_30 : decode cX6_begins 30 = .ok (.getfield 19, 3) := by decide +kernel
theorem dX6_begins_33 : decode cX6_begins 33 = .ok (.iload_n 1, 1) := by decide +kernel
theorem dX6_begins_34 : decode cX6_begins 34 = .ok (.iconst 0, 1) := by decide +kernel
theorem dX6_begins_35 : decode cX6_begins 35 = .ok (.iastore, 1) := by decide +kernel
theorem dX6_begins_36 : decode cX6_begins 36 = .ok (.iinc 1 1, 3) := by decide +kernel
theorem dX6_begins_39 : decode cX6_begins 39 = .ok (.goto (-16), 3) := by decide +kernel
theorem dX6_begins_42 : decode cX6_begins 42 = .ok (.return_, 1) := by decide +kernel
theorem dX6_stands_0 : decode cX6_stands 0 = .ok (.aload_n 0, 1) := by decide +kernel
theorem dX6_stands_1 : decode cX6_stands 1 = .ok (.getfield 16, 3) := by decide +kernel
theorem dX6_stands_4 : decode cX6_stands 4 = .ok (.iconst 0, 1) := by decide +kernel
theorem dX6_stands_5 : decode cX6_stands 5 = .ok (.iaload, 1) := by decide +kernel
theorem dX6_stands_6 : decode cX6_stands 6 = .ok (.istore_n 3, 1) := by decide +kernel
theorem dX6_stands_7 : decode cX6_stands 7 = .ok (.aload_n 0, 1) := by decide +kernel
theorem dX6_stands_8 : decode cX6_stands 8 = .ok (.getfield 16, 3) := by decide +kernel
theorem dX6_stands_11 : decode cX6_stands 11 = .ok (.iconst 2, 1) := by decide +kernel
theorem dX6_stands_12 : decode cX6_stands 12 = .ok (.iload_n 3, 1) := by decide +kernel
theorem dX6_stands_13 : decode cX6_stands 13 = .ok (.iadd, 1) := by decide +kernel
theorem dX6_stands_14 : decode cX6_stands 14 = .ok (.iload_n 1, 1) := by decide +kernel
theorem dX6_stands_15 : decode cX6_stands 15 = .ok (.iastore, 1) := by decide +kernel
theorem dX6_stands_16 : decode cX6_stands 16 = .ok (.aload_n 0, 1) := by decide +kernel
theorem dX6_stands_17 : decode cX6_stands 17 = .ok (.getfield 16, 3) := by decide +kernel
theorem dX6_stands_20 : decode cX6_stands 20 = .ok (.bipush 9, 2) := by decide +kernel
theorem dX6_stands_22 : decode cX6_stands 22 = .ok (.iload_n 3, 1) := by decide +kernel
theorem dX6_stands_23 : decode cX6_stands 23 = .ok (.iadd, 1) := by decide +kernel
theorem dX6_stands_24 : decode cX6_stands 24 = .ok (.iload_n 2, 1) := by decide +kernel
theorem dX6_stands_25 : decode cX6_stands 25 = .ok (.iastore, 1) := by decide +kernel
theorem dX6_stands_26 : decode cX6_stands 26 = .ok (.aload_n 0, 1) := by decide +kernel
theorem dX6_stands_27 : decode cX6_stands 27 = .ok (.getfield 19, 3) := by decide +kernel
theorem dX6_stands_30 : decode cX6_stands 30 = .ok (.iconst 1, 1) := by decide +kernel
theorem dX6_stands_31 : decode cX6_stands 31 = .ok (.iload_n 3, 1) := by decide +kernel
theorem dX6_stands_32 : decode cX6_stands 32 = .ok (.iadd, 1) := by decide +kernel
theorem dX6_stands_33 : decode cX6_stands 33 = .ok (.iload_n 3, 1) := by decide +kernel
theorem dX6_stands_34 : decode cX6_stands 34 = .ok (.iastore, 1) := by decide +kernel
theorem dX6_stands_35 : decode cX6_stands 35 = .ok (.aload_n 0, 1) := by decide +kernel
theorem dX6_stands_36 : decode cX6_stands 36 = .ok (.getfield 16, 3) := by decide +kernel
theorem dX6_stands_39 : decode cX6_stands 39 = .ok (.iconst 0, 1) := by decide +kernel
theorem dX6_stands_40 : decode cX6_stands 40 = .ok (.dup2, 1) := by decide +kernel
theorem dX6_stands_41 : decode cX6_stands 41 = .ok (.iaload, 1) := by decide +kernel
theorem dX6_stands_42 : decode cX6_stands 42 = .ok (.iconst 1, 1) := by decide +kernel
theorem dX6_stands_43 : decode cX6_stands 43 = .ok (.iadd, 1) := by decide +kernel
theorem dX6_stands_44 : decode cX6_stands 44 = .ok (.iastore, 1) := by decide +kernel
theorem dX6_stands_45 : decode cX6_stands 45 = .ok (.return_, 1) := by decide +kernel
theorem dX6_isTold_0 : decode cX6_isTold 0 = .ok (.aload_n 0, 1) := by decide +kernel
theorem dX6_isTold_1 : decode cX6_isTold 1 = .ok (.getfield 16, 3) := by decide +kernel
theorem dX6_isTold_4 : decode cX6_isTold 4 = .ok (.iconst 1, 1) := by decide +kernel
theorem dX6_isTold_5 : decode cX6_isTold 5 = .ok (.iaload, 1) := by decide +kernel
theorem dX6_isTold_6 : decode cX6_isTold 6 = .ok (.istore_n 3, 1) := by decide +kernel
theorem dX6_isTold_7 : decode cX6_isTold 7 = .ok (.iload_n 2, 1) := by decide +kernel
theorem dX6_isTold_8 : decode cX6_isTold 8 = .ok (.istore 4, 2) := by decide +kernel
theorem dX6_isTold_10 : decode cX6_isTold 10 = .ok (.aload_n 0, 1) := by decide +kernel
theorem dX6_isTold_11 : decode cX6_isTold 11 = .ok (.getfield 16, 3) := by decide +kernel
theorem dX6_isTold_14 : decode cX6_isTold 14 = .ok (.iconst 0, 1) := by decide +kernel
theorem dX6_isTold_15 : decode cX6_isTold 15 = .ok (.iaload, 1) := by decide +kernel
theorem dX6_isTold_16 : decode cX6_isTold 16 = .ok (.iconst 1, 1) := by decide +kernel
theorem dX6_isTold_17 : decode cX6_isTold 17 = .ok (.isub, 1) := by decide +kernel
theorem dX6_isTold_18 : decode cX6_isTold 18 = .ok (.istore 5, 2) := by decide +kernel
theorem dX6_isTold_20 : decode cX6_isTold 20 = .ok (.iload 5, 2) := by decide +kernel
theorem dX6_isTold_22 : decode cX6_isTold 22 = .ok (.ifCond .lt 36, 3) := by decide +kernel
theorem dX6_isTold_25 : decode cX6_isTold 25 = .ok (.aload_n 0, 1) := by decide +kernel
theorem dX6_isTold_26 : decode cX6_isTold 26 = .ok (.getfield 19, 3) := by decide +kernel
theorem dX6_isTold_29 : decode cX6_isTold 29 = .ok (.bipush 14, 2) := by decide +kernel
theorem dX6_isTold_31 : decode cX6_isTold 31 = .ok (.bipush 7, 2) := by decide +kernel
theorem dX6_isTold_33 : decode cX6_isTold 33 = .ok (.iload_n 3, 1) := by decide +kernel
theorem dX6_isTold_34 : decode cX6_isTold 34 = .ok (.imul, 1) := by decide +kernel
theorem dX6_isTold_35 : decode cX6_isTold 35 = .ok (.iadd, 1) := by decide +kernel
theorem dX6_isTold_36 : decode cX6_isTold 36 = .ok (.iload 5, 2) := by decide +kernel
theorem dX6_isTold_38 : decode cX6_isTold 38 = .ok (.iadd, 1) := by decide +kernel
theorem dX6_isTold_39 : decode cX6_isTold 39 = .ok (.iload 4, 2) := by decide +kernel
theorem dX6_isTold_41 : decode cX6_isTold 41 = .ok (.bipush 10, 2) := by decide +kernel
theorem dX6_isTold_43 : decode cX6_isTold 43 = .ok (.irem, 1) := by decide +kernel
theorem dX6_isTold_44 : decode cX6_isTold 44 = .ok (.iastore, 1) := by decide +kernel
theorem dX6_isTold_45 : decode cX6_isTold 45 = .ok (.iload 4, 2) := by decide +kernel
theorem dX6_isTold_47 : decode cX6_isTold 47 = .ok (.bipush 10, 2) := by decide +kernel
theorem dX6_isTold_49 : decode cX6_isTold 49 = .ok (.idiv, 1) := by decide +kernel
theorem dX6_isTold_50 : decode cX6_isTold 50 = .ok (.istore 4, 2) := by decide +kernel
theorem dX6_isTold_52 : decode cX6_isTold 52 = .ok (.iinc 5 (-1), 3) := by decide +kernel
theorem dX6_isTold_55 : decode cX6_isTold 55 = .ok (.goto (-35), 3) := by decide +kernel
theorem dX6_isTold_58 : decode cX6_isTold 58 = .ok (.aload_n 0, 1) := by decide +kernel
theorem dX6_isTold_59 : decode cX6_isTold 59 = .ok (.getfield 19, 3) := by decide +kernel
theorem dX6_isTold_62 : decode cX6_isTold 62 = .ok (.bipush 8, 2) := by decide +kernel
theorem dX6_isTold_64 : decode cX6_isTold 64 = .ok (.iload_n 3, 1) := by decide +kernel
theorem dX6_isTold_65 : decode cX6_isTold 65 = .ok (.iadd, 1) := by decide +kernel
theorem dX6_isTold_66 : decode cX6_isTold 66 = .ok (.iload_n 1, 1) := by decide +kernel
theorem dX6_isTold_67 : decode cX6_isTold 67 = .ok (.iastore, 1) := by decide +kernel
theorem dX6_isTold_68 : decode cX6_isTold 68 = .ok (.aload_n 0, 1) := by decide +kernel
theorem dX6_isTold_69 : decode cX6_isTold 69 = .ok (.getfield 16, 3) := by decide +kernel
theorem dX6_isTold_72 : decode cX6_isTold 72 = .ok (.iconst 1, 1) := by decide +kernel
theorem dX6_isTold_73 : decode cX6_isTold 73 = .ok (.dup2, 1) := by decide +kernel
theorem dX6_isTold_74 : decode cX6_isTold 74 = .ok (.iaload, 1) := by decide +kernel
theorem dX6_isTold_75 : decode cX6_isTold 75 = .ok (.iconst 1, 1) := by decide +kernel
theorem dX6_isTold_76 : decode cX6_isTold 76 = .ok (.iadd, 1) := by decide +kernel
theorem dX6_isTold_77 : decode cX6_isTold 77 = .ok (.iastore, 1) := by decide +kernel
theorem dX6_isTold_78 : decode cX6_isTold 78 = .ok (.return_, 1) := by decide +kernel
set_option maxRecDepth 20000 in
theorem ggX6_readsCourtier_X6_number : GoodIn wsX6_readsCourtier wsX6_number := goodIn_r _ [6, 7, 8, 9, 10, 5, 11, 12, 13, 14, 15, 16, 17, 18, 19, 25, 26, 27, 28, 29, 30, 31, 32, 33, 34, 35, 36, 37, 38, 39, 40, 41] (by decide +kernel) (by decide +kernel)
set_option maxRecDepth 20000 in
theorem gX6_readsCourtier_X6_number : GoodIn wsX6_readsCourtier (wsV RX6 82 RX6 yX6_number wsX6_number) := goodIn_app (goodIn_of _ (by decide +kernel)) ggX6_readsCourtier_X6_number
set_option maxRecDepth 20000 in
theorem ggX6_readsCourtier_X6_stands : GoodIn wsX6_readsCourtier wsX6_stands := goodIn_r _ [23, 1, 24, 25, 26, 27, 28, 29, 30, 31, 32, 33, 34, 35, 36, 37, 38, 39, 40, 41] (by decide +kernel) (by decide +kernel)
set_option maxRecDepth 20000 in
theorem gX6_readsCourtier_X6_stands : GoodIn wsX6_readsCourtier (wsV RX6 49 RX6 yX6_stands wsX6_stands) := goodIn_app (goodIn_of _ (by decide +kernel)) ggX6_readsCourtier_X6_stands
theorem dX6_readsCourtier_0 : decode cX6_readsCourtier 0 = .ok (.aload_n 0, 1) := by decide +kernel
theorem dX6_readsCourtier_1 : decode cX6_readsCourtier 1 = .ok (.iconst 0, 1) := by decide +kernel
theorem dX6_readsCourtier_2 : decode cX6_readsCourtier 2 = .ok (.iconst 3, 1) := by decide +kernel
theorem dX6_readsCourtier_3 : decode cX6_readsCourtier 3 = .ok (.bipush 44, 2) := by decide +kernel
theorem dX6_readsCourtier_5 : decode cX6_readsCourtier 5 = .ok (.invokevirtual 82, 3) := by decide +kernel
theorem dX6_readsCourtier_8 : decode cX6_readsCourtier 8 = .ok (.istore_n 1, 1) := by decide +kernel
theorem dX6_readsCourtier_9 : decode cX6_readsCourtier 9 = .ok (.iload_n 1, 1) := by decide +kernel
theorem dX6_readsCourtier_10 : decode cX6_readsCourtier 10 = .ok (.ifCond .ge 7, 3) := by decide +kernel
theorem dX6_readsCourtier_13 : decode cX6_readsCourtier 13 = .ok (.iconst (-1), 1) := by decide +kernel
theorem dX6_readsCourtier_14 : decode cX6_readsCourtier 14 = .ok (.goto 12, 3) := by decide +kernel
theorem dX6_readsCourtier_17 : decode cX6_readsCourtier 17 = .ok (.aload_n 0, 1) := by decide +kernel
theorem dX6_readsCourtier_18 : decode cX6_readsCourtier 18 = .ok (.iconst 0, 1) := by decide +kernel
theorem dX6_readsCourtier_19 : decode cX6_readsCourtier 19 = .ok (.bipush 9, 2) := by decide +kernel
theorem dX6_readsCourtier_21 : decode cX6_readsCourtier 21 = .ok (.bipush 59, 2) := by decide +kernel
theorem dX6_readsCourtier_23 : decode cX6_readsCourtier 23 = .ok (.invokevirtual 82, 3) := by decide +kernel
theorem dX6_readsCourtier_26 : decode cX6_readsCourtier 26 = .ok (.istore_n 2, 1) := by decide +kernel
theorem dX6_readsCourtier_27 : decode cX6_readsCourtier 27 = .ok (.iload_n 2, 1) := by decide +kernel
theorem dX6_readsCourtier_28 : decode cX6_readsCourtier 28 = .ok (.ifCond .lt 26, 3) := by decide +kernel
theorem dX6_readsCourtier_31 : decode cX6_readsCourtier 31 = .ok (.iload_n 2, 1) := by decide +kernel
theorem dX6_readsCourtier_32 : decode cX6_readsCourtier 32 = .ok (.bipush 7, 2) := by decide +kernel
theorem dX6_readsCourtier_34 : decode cX6_readsCourtier 34 = .ok (.if_icmp .eq 20, 3) := by decide +kernel
theorem dX6_readsCourtier_37 : decode cX6_readsCourtier 37 = .ok (.iload_n 2, 1) := by decide +kernel
theorem dX6_readsCourtier_38 : decode cX6_readsCourtier 38 = .ok (.bipush 8, 2) := by decide +kernel
theorem dX6_readsCourtier_40 : decode cX6_readsCourtier 40 = .ok (.if_icmp .eq 14, 3) := by decide +kernel
theorem dX6_readsCourtier_43 : decode cX6_readsCourtier 43 = .ok (.aload_n 0, 1) := by decide +kernel
theorem dX6_readsCourtier_44 : decode cX6_readsCourtier 44 = .ok (.getfield 16, 3) := by decide +kernel
theorem dX6_readsCourtier_47 : decode cX6_readsCourtier 47 = .ok (.iconst 0, 1) := by decide +kernel
theorem dX6_readsCourtier_48 : decode cX6_readsCourtier 48 = .ok (.iaload, 1) := by decide +kernel
theorem dX6_readsCourtier_49 : decode cX6_readsCourtier 49 = .ok (.bipush 7, 2) := by decide +kernel
theorem dX6_readsCourtier_51 : decode cX6_readsCourtier 51 = .ok (.if_icmp .ne 5, 3) := by decide +kernel
theorem dX6_readsCourtier_54 : decode cX6_readsCourtier 54 = .ok (.iconst 0, 1) := by decide +kernel
theorem dX6_readsCourtier_55 : decode cX6_readsCourtier 55 = .ok (.ireturn, 1) := by decide +kernel
theorem dX6_readsCourtier_56 : decode cX6_readsCourtier 56 = .ok (.aload_n 0, 1) := by decide +kernel
theorem dX6_readsCourtier_57 : decode cX6_readsCourtier 57 = .ok (.iload_n 1, 1) := by decide +kernel
theorem dX6_readsCourtier_58 : decode cX6_readsCourtier 58 = .ok (.iload_n 2, 1) := by decide +kernel
theorem dX6_readsCourtier_59 : decode cX6_readsCourtier 59 = .ok (.invokevirtual 49, 3) := by decide +kernel
theorem dX6_readsCourtier_62 : decode cX6_readsCourtier 62 = .ok (.iconst 1, 1) := by decide +kernel
theorem dX6_readsCourtier_63 : decode cX6_readsCourtier 63 = .ok (.ireturn, 1) := by decide +kernel
set_option maxRecDepth 20000 in
theorem ggX6_readsNews_X6_number : GoodIn wsX6_readsNews wsX6_number := goodIn_r _ [7, 2, 8, 9, 10, 6, 11, 12, 13, 14, 15, 16, 17, 18, 19, 25, 26, 27, 28, 29, 30, 31, 32, 33, 34, 35, 36, 37, 38, 39, 40, 41] (by decide +kernel) (by decide +kernel)
set_option maxRecDepth 20000 in
theorem gX6_readsNews_X6_number : GoodIn wsX6_readsNews (wsV RX6 82 RX6 yX6_number wsX6_number) := goodIn_app (goodIn_of _ (by decide +kernel)) ggX6_readsNews_X6_number
set_option maxRecDepth 20000 in
theorem ggX6_readsNews_X6_letterAt : GoodIn wsX6_readsNews wsX6_letterAt := goodIn_r _ [11, 12, 13, 25, 26, 27, 28, 29, 30, 31, 32, 33, 34, 35, 36, 37, 38, 39, 40, 41] (by decide +kernel) (by decide +kernel)
set_option maxRecDepth 20000 in
theorem gX6_readsNews_X6_letterAt : GoodIn wsX6_readsNews (wsV RX6 74 RX6 yX6_letterAt wsX6_letterAt) := goodIn_app (goodIn_of _ (by decide +kernel)) ggX6_readsNews_X6_letterAt
set_option maxRecDepth 20000 in
theorem ggX6_readsNews_X6_isFigure : GoodIn wsX6_readsNews wsX6_isFigure := goodIn_r _ [16, 17, 18, 6, 19] (by decide +kernel) (by decide +kernel)
set_option maxRecDepth 20000 in
theorem gX6_readsNews_X6_isFigure : GoodIn wsX6_readsNews (va_wsS RX6 78 yX6_isFigure wsX6_isFigure) := goodIn_app (goodIn_of _ (by decide +kernel)) ggX6_readsNews_X6_isFigure
set_option maxRecDepth 20000 in
theorem ggX6_readsNews_X6_isTold : GoodIn wsX6_readsNews wsX6_isTold := goodIn_r _ [23, 1, 24, 25, 26, 27, 28, 29, 30, 31, 32, 33, 34, 35, 36, 37, 38, 39, 40, 41] (by decide +kernel) (by decide +kernel)
set_option maxRecDepth 20000 in
theorem gX6_readsNews_X6_isTold : GoodIn wsX6_readsNews (wsV RX6 54 RX6 yX6_isTold wsX6_isTold) := goodIn_app (goodIn_of _ (by decide +kernel)) ggX6_readsNews_X6_isTold
theorem dX6_readsNews_0 : decode cX6_readsNews 0 = .ok (.aload_n 0, 1) := by decide +kernel
theorem dX6_readsNews_1 : decode cX6_readsNews 1 = .ok (.iconst 0, 1) := by decide +kernel
theorem dX6_readsNews_2 : decode cX6_readsNews 2 = .ok (.aload_n 0, 1) := by decide +kernel
theorem dX6_readsNews_3 : decode cX6_readsNews 3 = .ok (.getfield 16, 3) := by decide +kernel
theorem dX6_readsNews_6 : decode cX6_readsNews 6 = .ok (.iconst 0, 1) := by decide +kernel
theorem dX6_readsNews_7 : decode cX6_readsNews 7 = .ok (.iaload, 1) := by decide +kernel
theorem dX6_readsNews_8 : decode cX6_readsNews 8 = .ok (.iconst 1, 1) := by decide +kernel
theorem dX6_readsNews_9 : decode cX6_readsNews 9 = .ok (.isub, 1) := by decide +kernel
theorem dX6_readsNews_10 : decode cX6_readsNews 10 = .ok (.bipush 44, 2) := by decide +kernel
theorem dX6_readsNews_12 : decode cX6_readsNews 12 = .ok (.invokevirtual 82, 3) := by decide +kernel
theorem dX6_readsNews_15 : decode cX6_readsNews 15 = .ok (.istore_n 1, 1) := by decide +kernel
theorem dX6_readsNews_16 : decode cX6_readsNews 16 = .ok (.iload_n 1, 1) := by decide +kernel
theorem dX6_readsNews_17 : decode cX6_readsNews 17 = .ok (.ifCond .lt 14, 3) := by decide +kernel
theorem dX6_readsNews_20 : decode cX6_readsNews 20 = .ok (.aload_n 0, 1) := by decide +kernel
theorem dX6_readsNews_21 : decode cX6_readsNews 21 = .ok (.getfield 16, 3) := by decide +kernel
theorem dX6_readsNews_24 : decode cX6_readsNews 24 = .ok (.iconst 1, 1) := by decide +kernel
theorem dX6_readsNews_25 : decode cX6_readsNews 25 = .ok (.iaload, 1) := by decide +kernel
theorem dX6_readsNews_26 : decode cX6_readsNews 26 = .ok (.bipush 6, 2) := by decide +kernel
theorem dX6_readsNews_28 : decode cX6_readsNews 28 = .ok (.if_icmp .ne 5, 3) := by decide +kernel
theorem dX6_readsNews_31 : decode cX6_readsNews 31 = .ok (.iconst 0, 1) := by decide +kernel
theorem dX6_readsNews_32 : decode cX6_readsNews 32 = .ok (.ireturn, 1) := by decide +kernel
theorem dX6_readsNews_33 : decode cX6_readsNews 33 = .ok (.iconst 0, 1) := by decide +kernel
theorem dX6_readsNews_34 : decode cX6_readsNews 34 = .ok (.istore_n 2, 1) := by decide +kernel
theorem dX6_readsNews_35 : decode cX6_readsNews 35 = .ok (.iconst 0, 1) := by decide +kernel
theorem dX6_readsNews_36 : decode cX6_readsNews 36 = .ok (.istore_n 3, 1) := by decide +kernel
theorem dX6_readsNews_37 : decode cX6_readsNews 37 = .ok (.iload_n 3, 1) := by decide +kernel
theorem dX6_readsNews_38 : decode cX6_readsNews 38 = .ok (.aload_n 0, 1) := by decide +kernel
theorem dX6_readsNews_39 : decode cX6_readsNews 39 = .ok (.getfield 16, 3) := by decide +kernel
theorem dX6_readsNews_42 : decode cX6_readsNews 42 = .ok (.iconst 0, 1) := by decide +kernel
theorem dX6_readsNews_43 : decode cX6_readsNews 43 = .ok (.iaload, 1) := by decide +kernel
theorem dX6_readsNews_44 : decode cX6_readsNews 44 = .ok (.if_icmp .ge 52, 3) := by decide +kernel
theorem dX6_readsNews_47 : decode cX6_readsNews 47 = .ok (.aload_n 0, 1) := by decide +kernel
theorem dX6_readsNews_48 : decode cX6_readsNews 48 = .ok (.aload_n 0, 1) := by decide +kernel
theorem dX6_readsNews_49 : decode cX6_readsNews 49 = .ok (.getfield 71, 3) := by decide +kernel
theorem dX6_readsNews_52 : decode cX6_readsNews 52 = .ok (.invokevirtual 74, 3) := by decide +kernel
theorem dX6_readsNews_55 : decode cX6_readsNews 55 = .ok (.invokestatic 78, 3) := by decide +kernel
theorem dX6_readsNews_58 : decode cX6_readsNews 58 = .ok (.ifCond .ne 5, 3) := by decide +kernel
theorem dX6_readsNews_61 : decode cX6_readsNews 61 = .ok (.iconst 0, 1) := by decide +kernel
theorem dX6_readsNews_62 : decode cX6_readsNews 62 = .ok (.ireturn, 1) := by decide +kernel
theorem dX6_readsNews_63 : decode cX6_readsNews 63 = .ok (.bipush 10, 2) := by decide +kernel
theorem dX6_readsNews_65 : decode cX6_readsNews 65 = .ok (.iload_n 2, 1) := by decide +kernel
theorem dX6_readsNews_66 : decode cX6_readsNews 66 = .ok (.imul, 1) := by decide +kernel
theorem dX6_readsNews_67 : decode cX6_readsNews 67 = .ok (.aload_n 0, 1) := by decide +kernel
theorem dX6_readsNews_68 : decode cX6_readsNews 68 = .ok (.aload_n 0, 1) := by decide +kernel
theorem dX6_readsNews_69 : decode cX6_readsNews 69 = .ok (.getfield 71, 3) := by decide +kernel
theorem dX6_readsNews_72 : decode cX6_readsNews 72 = .ok (.invokevirtual 74, 3) := by decide +kernel
theorem dX6_readsNews_75 : decode cX6_readsNews 75 = .ok (.iadd, 1) := by decide +kernel
theorem dX6_readsNews_76 : decode cX6_readsNews 76 = .ok (.bipush 48, 2) := by decide +kernel
theorem dX6_readsNews_78 : decode cX6_readsNews 78 = .ok (.isub, 1) := by decide +kernel
theorem dX6_readsNews_79 : decode cX6_readsNews 79 = .ok (.istore_n 2, 1) := by decide +kernel
theorem dX6_readsNews_80 : decode cX6_readsNews 80 = .ok (.aload_n 0, 1) := by decide +kernel
theorem dX6_readsNews_81 : decode cX6_readsNews 81 = .ok (.dup, 1) := by decide +kernel
theorem dX6_readsNews_82 : decode cX6_readsNews 82 = .ok (.getfield 71, 3) := by decide +kernel
theorem dX6_readsNews_85 : decode cX6_readsNews 85 = .ok (.iconst 1, 1) := by decide +kernel
theorem dX6_readsNews_86 : decode cX6_readsNews 86 = .ok (.iadd, 1) := by decide +kernel
theorem dX6_readsNews_87 : decode cX6_readsNews 87 = .ok (.putfield 71, 3) := by decide +kernel
theorem dX6_readsNews_90 : decode cX6_readsNews 90 = .ok (.iinc 3 1, 3) := by decide +kernel
theorem dX6_readsNews_93 : decode cX6_readsNews 93 = .ok (.goto (-56), 3) := by decide +kernel
theorem dX6_readsNews_96 : decode cX6_readsNews 96 = .ok (.aload_n 0, 1) := by decide +kernel
theorem dX6_readsNews_97 : decode cX6_readsNews 97 = .ok (.aload_n 0, 1) := by decide +kernel
theorem dX6_readsNews_98 : decode cX6_readsNews 98 = .ok (.getfield 71, 3) := by decide +kernel
theorem dX6_readsNews_101 : decode cX6_readsNews 101 = .ok (.invokevirtual 74, 3) := by decide +kernel
theorem dX6_readsNews_104 : decode cX6_readsNews 104 = .ok (.bipush 59, 2) := by decide +kernel
theorem dX6_readsNews_106 : decode cX6_readsNews 106 = .ok (.if_icmp .eq 5, 3) := by decide +kernel
theorem dX6_readsNews_109 : decode cX6_readsNews 109 = .ok (.iconst 0, 1) := by decide +kernel
theorem dX6_readsNews_110 : decode cX6_readsNews 110 = .ok (.ireturn, 1) := by decide +kernel
theorem dX6_readsNews_111 : decode cX6_readsNews 111 = .ok (.aload_n 0, 1) := by decide +kernel
theorem dX6_readsNews_112 : decode cX6_readsNews 112 = .ok (.dup, 1) := by decide +kernel
theorem dX6_readsNews_113 : decode cX6_readsNews 113 = .ok (.getfield 71, 3) := by decide +kernel
theorem dX6_readsNews_116 : decode cX6_readsNews 116 = .ok (.iconst 1, 1) := by decide +kernel
theorem dX6_readsNews_117 : decode cX6_readsNews 117 = .ok (.iadd, 1) := by decide +kernel
theorem dX6_readsNews_118 : decode cX6_readsNews 118 = .ok (.putfield 71, 3) := by decide +kernel
theorem dX6_readsNews_121 : decode cX6_readsNews 121 = .ok (.aload_n 0, 1) := by decide +kernel
theorem dX6_readsNews_122 : decode cX6_readsNews 122 = .ok (.iload_n 1, 1) := by decide +kernel
theorem dX6_readsNews_123 : decode cX6_readsNews 123 = .ok (.iload_n 2, 1) := by decide +kernel
theorem dX6_readsNews_124 : decode cX6_readsNews 124 = .ok (.invokevirtual 54, 3) := by decide +kernel
theorem dX6_readsNews_127 : decode cX6_readsNews 127 = .ok (.iconst 1, 1) := by decide +kernel
theorem dX6_readsNews_128 : decode cX6_readsNews 128 = .ok (.ireturn, 1) := by decide +kernel
set_option maxRecDepth 20000 in
theorem ggX6_readsAll_X6_begins : GoodIn wsX6_readsAll wsX6_begins := goodIn_r _ [8, 9, 10, 41, 42, 43, 44, 45, 46, 47, 48, 49, 50, 51, 52, 53, 54, 55, 56, 57] (by decide +kernel) (by decide +kernel)
set_option maxRecDepth 20000 in
theorem gX6_readsAll_X6_begins : GoodIn wsX6_readsAll (wsV RX6 46 RX6 yX6_begins wsX6_begins) := goodIn_app (goodIn_of _ (by decide +kernel)) ggX6_readsAll_X6_begins
set_option maxRecDepth 20000 in
theorem ggX6_readsAll_X6_readsCourtier : GoodIn wsX6_readsAll wsX6_readsCourtier := goodIn_r _ [14, 9, 15, 16, 17, 7, 18, 1, 19, 20, 21, 22, 2, 3, 23, 24, 25, 26, 27, 28, 29, 30, 31, 32, 10, 41, 42, 43, 44, 45, 46, 47, 48, 49, 50, 51, 52, 53, 54, 55, 56, 57] (by decide +kernel) (by decide +kernel)
set_option maxRecDepth 20000 in
theorem gX6_readsAll_X6_readsCourtier : GoodIn wsX6_readsAll (wsV RX6 86 RX6 yX6_readsCourtier wsX6_readsCourtier) := goodIn_app (goodIn_of _ (by decide +kernel)) ggX6_readsAll_X6_readsCourtier
set_option maxRecDepth 20000 in
theorem ggX6_readsAll_X6_readsNews : GoodIn wsX6_readsAll wsX6_readsNews := goodIn_r _ [36, 9, 1, 15, 16, 17, 7, 18, 19, 20, 21, 22, 2, 3, 23, 24, 25, 26, 27, 28, 37, 38, 39, 40, 10, 41, 42, 43, 44, 45, 46, 47, 48, 49, 50, 51, 52, 53, 54, 55, 56, 57] (by decide +kernel) (by decide +kernel)
set_option maxRecDepth 20000 in
theorem gX6_readsAll_X6_readsNews : GoodIn wsX6_readsAll (wsV RX6 90 RX6 yX6_readsNews wsX6_readsNews) := goodIn_app (goodIn_of _ (by decide +kernel)) ggX6_readsAll_X6_readsNews
theorem dX6_readsAll_0 : decode cX6_readsAll 0 = .ok (.aload_n 0, 1) := by decide +kernel
theorem dX6_readsAll_1 : decode cX6_readsAll 1 = .ok (.invokevirtual 46, 3) := by decide +kernel
theorem dX6_readsAll_4 : decode cX6_readsAll 4 = .ok (.aload_n 0, 1) := by decide +kernel
theorem dX6_readsAll_5 : decode cX6_readsAll 5 = .ok (.iconst 0, 1) := by decide +kernel
theorem dX6_readsAll_6 : decode cX6_readsAll 6 = .ok (.putfield 71, 3) := by decide +kernel
theorem dX6_readsAll_9 : decode cX6_readsAll 9 = .ok (.aload_n 0, 1) := by decide +kernel
theorem dX6_readsAll_10 : decode cX6_readsAll 10 = .ok (.getfield 71, 3) := by decide +kernel
theorem dX6_readsAll_13 : decode cX6_readsAll 13 = .ok (.aload_n 0, 1) := by decide +kernel
theorem dX6_readsAll_14 : decode cX6_readsAll 14 = .ok (.getfield 67, 3) := by decide +kernel
theorem dX6_readsAll_17 : decode cX6_readsAll 17 = .ok (.if_icmp .ge 66, 3) := by decide +kernel
theorem dX6_readsAll_20 : decode cX6_readsAll 20 = .ok (.aload_n 0, 1) := by decide +kernel
theorem dX6_readsAll_21 : decode cX6_readsAll 21 = .ok (.getfield 71, 3) := by decide +kernel
theorem dX6_readsAll_24 : decode cX6_readsAll 24 = .ok (.istore_n 1, 1) := by decide +kernel
theorem dX6_readsAll_25 : decode cX6_readsAll 25 = .ok (.aload_n 0, 1) := by decide +kernel
theorem dX6_readsAll_26 : decode cX6_readsAll 26 = .ok (.getfield 7, 3) := by decide +kernel
theorem dX6_readsAll_29 : decode cX6_readsAll 29 = .ok (.iload_n 1, 1) := by decide +kernel
theorem dX6_readsAll_30 : decode cX6_readsAll 30 = .ok (.iaload, 1) := by decide +kernel
theorem dX6_readsAll_31 : decode cX6_readsAll 31 = .ok (.istore_n 2, 1) := by decide +kernel
theorem dX6_readsAll_32 : decode cX6_readsAll 32 = .ok (.aload_n 0, 1) := by decide +kernel
theorem dX6_readsAll_33 : decode cX6_readsAll 33 = .ok (.dup, 1) := by decide +kernel
theorem dX6_readsAll_34 : decode cX6_readsAll 34 = .ok (.getfield 71, 3) := by decide +kernel
theorem dX6_readsAll_37 : decode cX6_readsAll 37 = .ok (.iconst 1, 1) := by decide +kernel
theorem dX6_readsAll_38 : decode cX6_readsAll 38 = .ok (.iadd, 1) := by decide +kernel
theorem dX6_readsAll_39 : decode cX6_readsAll 39 = .ok (.putfield 71, 3) := by decide +kernel
theorem dX6_readsAll_42 : decode cX6_readsAll 42 = .ok (.iload_n 2, 1) := by decide +kernel
theorem dX6_readsAll_43 : decode cX6_readsAll 43 = .ok (.bipush 99, 2) := by decide +kernel
theorem dX6_readsAll_45 : decode cX6_readsAll 45 = .ok (.if_icmp .ne 10, 3) := by decide +kernel
theorem dX6_readsAll_48 : decode cX6_readsAll 48 = .ok (.aload_n 0, 1) := by decide +kernel
theorem dX6_readsAll_49 : decode cX6_readsAll 49 = .ok (.invokevirtual 86, 3) := by decide +kernel
theorem dX6_readsAll_52 : decode cX6_readsAll 52 = .ok (.goto 21, 3) := by decide +kernel
theorem dX6_readsAll_55 : decode cX6_readsAll 55 = .ok (.iload_n 2, 1) := by decide +kernel
theorem dX6_readsAll_56 : decode cX6_readsAll 56 = .ok (.bipush 110, 2) := by decide +kernel
theorem dX6_readsAll_58 : decode cX6_readsAll 58 = .ok (.if_icmp .ne 14, 3) := by decide +kernel
theorem dX6_readsAll_61 : decode cX6_readsAll 61 = .ok (.aload_n 0, 1) := by decide +kernel
theorem dX6_readsAll_62 : decode cX6_readsAll 62 = .ok (.invokevirtual 90, 3) := by decide +kernel
theorem dX6_readsAll_65 : decode cX6_readsAll 65 = .ok (.ifCond .eq 7, 3) := by decide +kernel
theorem dX6_readsAll_68 : decode cX6_readsAll 68 = .ok (.iconst 1, 1) := by decide +kernel
theorem dX6_readsAll_69 : decode cX6_readsAll 69 = .ok (.goto 4, 3) := by decide +kernel
theorem dX6_readsAll_72 : decode cX6_readsAll 72 = .ok (.iconst 0, 1) := by decide +kernel
theorem dX6_readsAll_73 : decode cX6_readsAll 73 = .ok (.istore_n 3, 1) := by decide +kernel
theorem dX6_readsAll_74 : decode cX6_readsAll 74 = .ok (.iload_n 3, 1) := by decide +kernel
theorem dX6_readsAll_75 : decode cX6_readsAll 75 = .ok (.ifCond .ne 5, 3) := by decide +kernel
theorem dX6_readsAll_78 : decode cX6_readsAll 78 = .ok (.iload_n 1, 1) := by decide +kernel
theorem dX6_readsAll_79 : decode cX6_readsAll 79 = .ok (.ireturn, 1) := by decide +kernel
theorem dX6_readsAll_80 : decode cX6_readsAll 80 = .ok (.goto (-71), 3) := by decide +kernel
theorem dX6_readsAll_83 : decode cX6_readsAll 83 = .ok (.bipush (-4), 2) := by decide +kernel
theorem dX6_readsAll_85 : decode cX6_readsAll 85 = .ok (.ireturn, 1) := by decide +kernel
set_option maxRecDepth 20000 in
theorem ggX6_fault_X6_readsAll : GoodIn wsX6_fault wsX6_readsAll := goodIn_r _ [5, 6, 7, 8, 9, 10, 11, 4, 12, 13, 14, 15, 16, 17, 18, 19, 20, 21, 22, 23, 24, 25, 26, 27, 28, 29, 30, 31, 32, 33, 34, 35, 36, 37, 38, 39, 40, 41, 42, 43, 44, 45, 46, 47, 48, 49, 50, 51, 52, 53, 54, 55, 56, 57, 58, 59, 60, 61] (by decide +kernel) (by decide +kernel)
set_option maxRecDepth 20000 in
theorem gX6_fault_X6_readsAll : GoodIn wsX6_fault (wsV RX6 93 RX6 yX6_readsAll wsX6_readsAll) := goodIn_app (goodIn_of _ (by decide +kernel)) ggX6_fault_X6_readsAll
theorem dX6_fault_0 : decode cX6_fault 0 = .ok (.aload_n 0, 1) := by decide +kernel
theorem dX6_fault_1 : decode cX6_fault 1 = .ok (.invokevirtual 93, 3) := by decide +kernel
theorem dX6_fault_4 : decode cX6_fault 4 = .ok (.ireturn, 1) := by decide +kernel
theorem dX6_lays_0 : decode cX6_lays 0 = .ok (.iconst 0, 1) := by decide +kernel
theorem dX6_lays_1 : decode cX6_lays 1 = .ok (.istore_n 1, 1) := by decide +kernel
theorem dX6_lays_2 : decode cX6_lays 2 = .ok (.iload_n 1, 1) := by decide +kernel
theorem dX6_lays_3 : decode cX6_lays 3 = .ok (.bipush 16, 2) := by decide +kernel
theorem dX6_lays_5 : decode cX6_lays 5 = .ok (.if_icmp .ge 21, 3) := by decide +kernel
theorem dX6_lays_8 : decode cX6_lays 8 = .ok (.aload_n 0, 1) := by decide +kernel
theorem dX6_lays_9 : decode cX6_lays 9 = .ok (.getfield 13, 3) := by decide +kernel
theorem dX6_lays_12 : decode cX6_lays 12 = .ok (.iload_n 1, 1) := by decide +kernel
theorem dX6_lays_13 : decode cX6_lays 13 = .ok (.aload_n 0, 1) := by decide +kernel
theorem dX6_lays_14 : decode cX6_lays 14 = .ok (.getfield 16, 3) := by decide +kernel
theorem dX6_lays_17 : decode cX6_lays 17 = .ok (.iload_n 1, 1) := by decide +kernel
theorem dX6_lays_18 : decode cX6_lays 18 = .ok (.iaload, 1) := by decide +kernel
theorem dX6_lays_19 : decode cX6_lays 19 = .ok (.iastore, 1) := by decide +kernel
theorem dX6_lays_20 : decode cX6_lays 20 = .ok (.iinc 1 1, 3) := by decide +kernel
theorem dX6_lays_23 : decode cX6_lays 23 = .ok (.goto (-21), 3) := by decide +kernel
theorem dX6_lays_26 : decode cX6_lays 26 = .ok (.iconst 0, 1) := by decide +kernel
theorem dX6_lays_27 : decode cX6_lays 27 = .ok (.istore_n 1, 1) := by decide +kernel
theorem dX6_lays_28 : decode cX6_lays 28 = .ok (.iload_n 1, 1) := by decide +kernel
theorem dX6_lays_29 : decode cX6_lays 29 = .ok (.bipush 56, 2) := by decide +kernel
theorem dX6_lays_31 : decode cX6_lays 31 = .ok (.if_icmp .ge 21, 3) := by decide +kernel
theorem dX6_lays_34 : decode cX6_lays 34 = .ok (.aload_n 0, 1) := by decide +kernel
theorem dX6_lays_35 : decode cX6_lays 35 = .ok (.getfield 22, 3) := by decide +kernel
theorem dX6_lays_38 : decode cX6_lays 38 = .ok (.iload_n 1, 1) := by decide +kernel
theorem dX6_lays_39 : decode cX6_lays 39 = .ok (.aload_n 0, 1) := by decide +kernel
theorem dX6_lays_40 : decode cX6_lays 40 = .ok (.getfield 19, 3) := by decide +kernel
theorem dX6_lays_43 : decode cX6_lays 43 = .ok (.iload_n 1, 1) := by decide +kernel
theorem dX6_lays_44 : decode cX6_lays 44 = .ok (.iaload, 1) := by decide +kernel
theorem dX6_lays_45 : decode cX6_lays 45 = .ok (.iastore, 1) := by decide +kernel
theorem dX6_lays_46 : decode cX6_lays 46 = .ok (.iinc 1 1, 3) := by decide +kernel
theorem dX6_lays_49 : decode cX6_lays 49 = .ok (.goto (-21), 3) := by decide +kernel
theorem dX6_lays_52 : decode cX6_lays 52 = .ok (.aload_n 0, 1) := by decide +kernel
theorem dX6_lays_53 : decode cX6_lays 53 = .ok (.iconst 0, 1) := by decide +kernel
theorem dX6_lays_54 : decode cX6_lays 54 = .ok (.putfield 97, 3) := by decide +kernel
theorem dX6_lays_57 : decode cX6_lays 57 = .ok (.aload_n 0, 1) := by decide +kernel
theorem dX6_lays_58 : decode cX6_lays 58 = .ok (.iconst 0, 1) := by decide +kernel
theorem dX6_lays_59 : decode cX6_lays 59 = .ok (.putfield 100, 3) := by decide +kernel
theorem dX6_lays_62 : decode cX6_lays 62 = .ok (.aload_n 0, 1) := by decide +kernel
theorem dX6_lays_63 : decode cX6_lays 63 = .ok (.iconst 0, 1) := by decide +kernel
theorem dX6_lays_64 : decode cX6_lays 64 = .ok (.putfield 103, 3) := by decide +kernel
theorem dX6_lays_67 : decode cX6_lays 67 = .ok (.return_, 1) := by decide +kernel
set_option maxRecDepth 20000 in
theorem ggX6_lay_X6_readsAll : GoodIn wsX6_lay wsX6_readsAll := goodIn_r _ [7, 8, 9, 10, 11, 12, 13, 6, 14, 1, 15, 16, 17, 18, 19, 20, 21, 22, 23, 24, 25, 26, 27, 28, 29, 30, 31, 32, 33, 34, 35, 36, 37, 38, 39, 40, 41, 42, 43, 44, 45, 54, 55, 56, 57, 58, 59, 60, 61, 62, 63, 64, 65, 66, 67, 68, 69, 70] (by decide +kernel) (by decide +kernel)
set_option maxRecDepth 20000 in
theorem gX6_lay_X6_readsAll : GoodIn wsX6_lay (wsV RX6 93 RX6 yX6_readsAll wsX6_readsAll) := goodIn_app (goodIn_of _ (by decide +kernel)) ggX6_lay_X6_readsAll
set_option maxRecDepth 20000 in
theorem ggX6_lay_X6_lays : GoodIn wsX6_lay wsX6_lays := goodIn_r _ [49, 2, 1, 50, 15, 51, 52, 53, 54, 55, 56, 57, 58, 59, 60, 61, 62, 63, 64, 65, 66, 67, 68, 69, 70] (by decide +kernel) (by decide +kernel)
set_option maxRecDepth 20000 in
theorem gX6_lay_X6_lays : GoodIn wsX6_lay (wsV RX6 60 RX6 yX6_lays wsX6_lays) := goodIn_app (goodIn_of _ (by decide +kernel)) ggX6_lay_X6_lays
theorem dX6_lay_0 : decode cX6_lay 0 = .ok (.aload_n 0, 1) := by decide +kernel
theorem dX6_lay_1 : decode cX6_lay 1 = .ok (.invokevirtual 93, 3) := by decide +kernel
theorem dX6_lay_4 : decode cX6_lay 4 = .ok (.bipush (-4), 2) := by decide +kernel
theorem dX6_lay_6 : decode cX6_lay 6 = .ok (.if_icmp .ne 21, 3) := by decide +kernel
theorem dX6_lay_9 : decode cX6_lay 9 = .ok (.aload_n 0, 1) := by decide +kernel
theorem dX6_lay_10 : decode cX6_lay 10 = .ok (.getfield 16, 3) := by decide +kernel
theorem dX6_lay_13 : decode cX6_lay 13 = .ok (.iconst 0, 1) := by decide +kernel
theorem dX6_lay_14 : decode cX6_lay 14 = .ok (.iaload, 1) := by decide +kernel
theorem dX6_lay_15 : decode cX6_lay 15 = .ok (.ifCond .eq 12, 3) := by decide +kernel
theorem dX6_lay_18 : decode cX6_lay 18 = .ok (.aload_n 0, 1) := by decide +kernel
theorem dX6_lay_19 : decode cX6_lay 19 = .ok (.getfield 16, 3) := by decide +kernel
theorem dX6_lay_22 : decode cX6_lay 22 = .ok (.iconst 1, 1) := by decide +kernel
theorem dX6_lay_23 : decode cX6_lay 23 = .ok (.iaload, 1) := by decide +kernel
theorem dX6_lay_24 : decode cX6_lay 24 = .ok (.ifCond .ne 6, 3) := by decide +kernel
theorem dX6_lay_27 : decode cX6_lay 27 = .ok (.bipush (-2), 2) := by decide +kernel
theorem dX6_lay_29 : decode cX6_lay 29 = .ok (.ireturn, 1) := by decide +kernel
theorem dX6_lay_30 : decode cX6_lay 30 = .ok (.aload_n 0, 1) := by decide +kernel
theorem dX6_lay_31 : decode cX6_lay 31 = .ok (.invokevirtual 60, 3) := by decide +kernel
theorem dX6_lay_34 : decode cX6_lay 34 = .ok (.aload_n 0, 1) := by decide +kernel
theorem dX6_lay_35 : decode cX6_lay 35 = .ok (.getfield 13, 3) := by decide +kernel
theorem dX6_lay_38 : decode cX6_lay 38 = .ok (.iconst 0, 1) := by decide +kernel
theorem dX6_lay_39 : decode cX6_lay 39 = .ok (.iaload, 1) := by decide +kernel
theorem dX6_lay_40 : decode cX6_lay 40 = .ok (.ireturn, 1) := by decide +kernel
theorem dX6_heeded_0 : decode cX6_heeded 0 = .ok (.aload_n 0, 1) := by decide +kernel
theorem dX6_heeded_1 : decode cX6_heeded 1 = .ok (.getfield 13, 3) := by decide +kernel
theorem dX6_heeded_4 : decode cX6_heeded 4 = .ok (.bipush 9, 2) := by decide +kernel
theorem dX6_heeded_6 : decode cX6_heeded 6 = .ok (.iload_n 1, 1) := by decide +kernel
theorem dX6_heeded_7 : decode cX6_heeded 7 = .ok (.iadd, 1) := by decide +kernel
theorem dX6_heeded_8 : decode cX6_heeded 8 = .ok (.iaload, 1) := by decide +kernel
theorem dX6_heeded_9 : decode cX6_heeded 9 = .ok (.istore_n 2, 1) := by decide +kernel
theorem dX6_heeded_10 : decode cX6_heeded 10 = .ok (.iload_n 2, 1) := by decide +kernel
theorem dX6_heeded_11 : decode cX6_heeded 11 = .ok (.aload_n 0, 1) := by decide +kernel
theorem dX6_heeded_12 : decode cX6_heeded 12 = .ok (.getfield 13, 3) := by decide +kernel
theorem dX6_heeded_15 : decode cX6_heeded 15 = .ok (.iconst 0, 1) := by decide +kernel
theorem dX6_heeded_16 : decode cX6_heeded 16 = .ok (.iaload, 1) := by decide +kernel
theorem dX6_heeded_17 : decode cX6_heeded 17 = .ok (.if_icmp .ge 8, 3) := by decide +kernel
theorem dX6_heeded_20 : decode cX6_heeded 20 = .ok (.iload_n 2, 1) := by decide +kernel
theorem dX6_heeded_21 : decode cX6_heeded 21 = .ok (.iload_n 1, 1) := by decide +kernel
theorem dX6_heeded_22 : decode cX6_heeded 22 = .ok (.if_icmp .ne 8, 3) := by decide +kernel
theorem dX6_heeded_25 : decode cX6_heeded 25 = .ok (.bipush (-4), 2) := by decide +kernel
theorem dX6_heeded_27 : decode cX6_heeded 27 = .ok (.goto 4, 3) := by decide +kernel
theorem dX6_heeded_30 : decode cX6_heeded 30 = .ok (.iload_n 2, 1) := by decide +kernel
theorem dX6_heeded_31 : decode cX6_heeded 31 = .ok (.ireturn, 1) := by decide +kernel
theorem dX6_doubts_0 : decode cX6_doubts 0 = .ok (.aload_n 0, 1) := by decide +kernel
theorem dX6_doubts_1 : decode cX6_doubts 1 = .ok (.getfield 22, 3) := by decide +kernel
theorem dX6_doubts_4 : decode cX6_doubts 4 = .ok (.bipush 14, 2) := by decide +kernel
theorem dX6_doubts_6 : decode cX6_doubts 6 = .ok (.bipush 7, 2) := by decide +kernel
theorem dX6_doubts_8 : decode cX6_doubts 8 = .ok (.iload_n 2, 1) := by decide +kernel
theorem dX6_doubts_9 : decode cX6_doubts 9 = .ok (.imul, 1) := by decide +kernel
theorem dX6_doubts_10 : decode cX6_doubts 10 = .ok (.iadd, 1) := by decide +kernel
theorem dX6_doubts_11 : decode cX6_doubts 11 = .ok (.iload_n 1, 1) := by decide +kernel
theorem dX6_doubts_12 : decode cX6_doubts 12 = .ok (.iadd, 1) := by decide +kernel
theorem dX6_doubts_13 : decode cX6_doubts 13 = .ok (.iaload, 1) := by decide +kernel
theorem dX6_doubts_14 : decode cX6_doubts 14 = .ok (.iconst 4, 1) := by decide +kernel
theorem dX6_doubts_15 : decode cX6_doubts 15 = .ok (.if_icmp .gt 7, 3) := by decide +kernel
theorem dX6_doubts_18 : decode cX6_doubts 18 = .ok (.iconst 1, 1) := by decide +kernel
theorem dX6_doubts_19 : decode cX6_doubts 19 = .ok (.goto 4, 3) := by decide +kernel
theorem dX6_doubts_22 : decode cX6_doubts 22 = .ok (.iconst 0, 1) := by decide +kernel
theorem dX6_doubts_23 : decode cX6_doubts 23 = .ok (.ireturn, 1) := by decide +kernel
set_option maxRecDepth 20000 in
theorem ggX6_doubters_X6_doubts : GoodIn wsX6_doubters wsX6_doubts := goodIn_r _ [6, 7, 8, 9, 10, 11, 12, 13, 14, 15, 16, 17, 18, 19, 20, 21, 22, 23, 24] (by decide +kernel) (by decide +kernel)
set_option maxRecDepth 20000 in
theorem gX6_doubters_X6_doubts : GoodIn wsX6_doubters (wsV RX6 106 RX6 yX6_doubts wsX6_doubts) := goodIn_app (goodIn_of _ (by decide +kernel)) ggX6_doubters_X6_doubts
theorem dX6_doubters_0 : decode cX6_doubters 0 = .ok (.iconst 0, 1) := by decide +kernel
theorem dX6_doubters_1 : decode cX6_doubters 1 = .ok (.istore_n 2, 1) := by decide +kernel
theorem dX6_doubters_2 : decode cX6_doubters 2 = .ok (.iconst 0, 1) := by decide +kernel
theorem dX6_doubters_3 : decode cX6_doubters 3 = .ok (.istore_n 3, 1) := by decide +kernel
theorem dX6_doubters_4 : decode cX6_doubters 4 = .ok (.iload_n 3, 1) := by decide +kernel
theorem dX6_doubters_5 : decode cX6_doubters 5 = .ok (.aload_n 0, 1) := by decide +kernel
theorem dX6_doubters_6 : decode cX6_doubters 6 = .ok (.getfield 13, 3) := by decide +kernel
theorem dX6_doubters_9 : decode cX6_doubters 9 = .ok (.iconst 0, 1) := by decide +kernel
theorem dX6_doubters_10 : decode cX6_doubters 10 = .ok (.iaload, 1) := by decide +kernel
theorem dX6_doubters_11 : decode cX6_doubters 11 = .ok (.if_icmp .ge 28, 3) := by decide +kernel
theorem dX6_doubters_14 : decode cX6_doubters 14 = .ok (.iload_n 2, 1) := by decide +kernel
theorem dX6_doubters_15 : decode cX6_doubters 15 = .ok (.aload_n 0, 1) := by decide +kernel
theorem dX6_doubters_16 : decode cX6_doubters 16 = .ok (.iload_n 3, 1) := by decide +kernel
theorem dX6_doubters_17 : decode cX6_doubters 17 = .ok (.iload_n 1, 1) := by decide +kernel
theorem dX6_doubters_18 : decode cX6_doubters 18 = .ok (.invokevirtual 106, 3) := by decide +kernel
theorem dX6_doubters_21 : decode cX6_doubters 21 = .ok (.ifCond .eq 9, 3) := by decide +kernel
theorem dX6_doubters_24 : decode cX6_doubters 24 = .ok (.iconst 1, 1) := by decide +kernel
theorem dX6_doubters_25 : decode cX6_doubters 25 = .ok (.iload_n 3, 1) := by decide +kernel
theorem dX6_doubters_26 : decode cX6_doubters 26 = .ok (.ishl, 1) := by decide +kernel
theorem dX6_doubters_27 : decode cX6_doubters 27 = .ok (.goto 4, 3) := by decide +kernel
theorem dX6_doubters_30 : decode cX6_doubters 30 = .ok (.iconst 0, 1) := by decide +kernel
theorem dX6_doubters_31 : decode cX6_doubters 31 = .ok (.ior, 1) := by decide +kernel
theorem dX6_doubters_32 : decode cX6_doubters 32 = .ok (.istore_n 2, 1) := by decide +kernel
theorem dX6_doubters_33 : decode cX6_doubters 33 = .ok (.iinc 3 1, 3) := by decide +kernel
theorem dX6_doubters_36 : decode cX6_doubters 36 = .ok (.goto (-32), 3) := by decide +kernel
theorem dX6_doubters_39 : decode cX6_doubters 39 = .ok (.iload_n 2, 1) := by decide +kernel
theorem dX6_doubters_40 : decode cX6_doubters 40 = .ok (.ireturn, 1) := by decide +kernel
set_option maxRecDepth 20000 in
theorem ggX6_courtier_X6_isCourtier : GoodIn wsX6_courtier wsX6_isCourtier := goodIn_r _ [7, 1, 8, 9, 6, 10, 19, 20, 21, 22, 23, 24, 25, 26, 27, 28, 29, 30, 31, 32, 33, 34, 35] (by decide +kernel) (by decide +kernel)
set_option maxRecDepth 20000 in
theorem gX6_courtier_X6_isCourtier : GoodIn wsX6_courtier (wsV RX6 110 RX6 yX6_isCourtier wsX6_isCourtier) := goodIn_app (goodIn_of _ (by decide +kernel)) ggX6_courtier_X6_isCourtier
set_option maxRecDepth 20000 in
theorem ggX6_courtier_X6_in : GoodIn wsX6_courtier wsX6_in := goodIn_r _ [10] (by decide +kernel) (by decide +kernel)
set_option maxRecDepth 20000 in
theorem gX6_courtier_X6_in : GoodIn wsX6_courtier (va_wsS RX6 63 yX6_in wsX6_in) := goodIn_app (goodIn_of _ (by decide +kernel)) ggX6_courtier_X6_in
set_option maxRecDepth 20000 in
theorem ggX6_courtier_X6_doubts : GoodIn wsX6_courtier wsX6_doubts := goodIn_r _ [14, 2, 19, 20, 21, 22, 23, 24, 25, 26, 27, 28, 29, 30, 31, 32, 33, 34, 35] (by decide +kernel) (by decide +kernel)
set_option maxRecDepth 20000 in
theorem gX6_courtier_X6_doubts : GoodIn wsX6_courtier (wsV RX6 106 RX6 yX6_doubts wsX6_doubts) := goodIn_app (goodIn_of _ (by decide +kernel)) ggX6_courtier_X6_doubts
set_option maxRecDepth 20000 in
theorem ggX6_courtier_X6_heeded : GoodIn wsX6_courtier wsX6_heeded := goodIn_r _ [18, 1, 19, 20, 21, 22, 23, 24, 25, 26, 27, 28, 29, 30, 31, 32, 33, 34, 35] (by decide +kernel) (by decide +kernel)
set_option maxRecDepth 20000 in
theorem gX6_courtier_X6_heeded : GoodIn wsX6_courtier (wsV RX6 113 RX6 yX6_heeded wsX6_heeded) := goodIn_app (goodIn_of _ (by decide +kernel)) ggX6_courtier_X6_heeded
theorem dX6_courtier_0 : decode cX6_courtier 0 = .ok (.aload_n 0, 1) := by decide +kernel
theorem dX6_courtier_1 : decode cX6_courtier 1 = .ok (.iload_n 1, 1) := by decide +kernel
theorem dX6_courtier_2 : decode cX6_courtier 2 = .ok (.invokevirtual 110, 3) := by decide +kernel
theorem dX6_courtier_5 : decode cX6_courtier 5 = .ok (.ifCond .eq 12, 3) := by decide +kernel
theorem dX6_courtier_8 : decode cX6_courtier 8 = .ok (.iload_n 2, 1) := by decide +kernel
theorem dX6_courtier_9 : decode cX6_courtier 9 = .ok (.iconst 0, 1) := by decide +kernel
theorem dX6_courtier_10 : decode cX6_courtier 10 = .ok (.iconst 4, 1) := by decide +kernel
theorem dX6_courtier_11 : decode cX6_courtier 11 = .ok (.invokestatic 63, 3) := by decide +kernel
theorem dX6_courtier_14 : decode cX6_courtier 14 = .ok (.ifCond .ne 5, 3) := by decide +kernel
theorem dX6_courtier_17 : decode cX6_courtier 17 = .ok (.iconst (-1), 1) := by decide +kernel
theorem dX6_courtier_18 : decode cX6_courtier 18 = .ok (.ireturn, 1) := by decide +kernel
theorem dX6_courtier_19 : decode cX6_courtier 19 = .ok (.iconst 0, 1) := by decide +kernel
theorem dX6_courtier_20 : decode cX6_courtier 20 = .ok (.istore_n 3, 1) := by decide +kernel
theorem dX6_courtier_21 : decode cX6_courtier 21 = .ok (.iconst 0, 1) := by decide +kernel
theorem dX6_courtier_22 : decode cX6_courtier 22 = .ok (.istore 4, 2) := by decide +kernel
theorem dX6_courtier_24 : decode cX6_courtier 24 = .ok (.iconst 0, 1) := by decide +kernel
theorem dX6_courtier_25 : decode cX6_courtier 25 = .ok (.istore 5, 2) := by decide +kernel
theorem dX6_courtier_27 : decode cX6_courtier 27 = .ok (.iload 5, 2) := by decide +kernel
theorem dX6_courtier_29 : decode cX6_courtier 29 = .ok (.aload_n 0, 1) := by decide +kernel
theorem dX6_courtier_30 : decode cX6_courtier 30 = .ok (.getfield 13, 3) := by decide +kernel
theorem dX6_courtier_33 : decode cX6_courtier 33 = .ok (.iconst 1, 1) := by decide +kernel
theorem dX6_courtier_34 : decode cX6_courtier 34 = .ok (.iaload, 1) := by decide +kernel
theorem dX6_courtier_35 : decode cX6_courtier 35 = .ok (.if_icmp .ge 57, 3) := by decide +kernel
theorem dX6_courtier_38 : decode cX6_courtier 38 = .ok (.iload_n 3, 1) := by decide +kernel
theorem dX6_courtier_39 : decode cX6_courtier 39 = .ok (.aload_n 0, 1) := by decide +kernel
theorem dX6_courtier_40 : decode cX6_courtier 40 = .ok (.getfield 22, 3) := by decide +kernel
theorem dX6_courtier_43 : decode cX6_courtier 43 = .ok (.bipush 8, 2) := by decide +kernel
theorem dX6_courtier_45 : decode cX6_courtier 45 = .ok (.iload 5, 2) := by decide +kernel
theorem dX6_courtier_47 : decode cX6_courtier 47 = .ok (.iadd, 1) := by decide +kernel
theorem dX6_courtier_48 : decode cX6_courtier 48 = .ok (.iaload, 1) := by decide +kernel
theorem dX6_courtier_49 : decode cX6_courtier 49 = .ok (.iload_n 1, 1) := by decide +kernel
theorem dX6_courtier_50 : decode cX6_courtier 50 = .ok (.if_icmp .ne 10, 3) := by decide +kernel
theorem dX6_courtier_53 : decode cX6_courtier 53 = .ok (.iconst 1, 1) := by decide +kernel
theorem dX6_courtier_54 : decode cX6_courtier 54 = .ok (.iload 5, 2) := by decide +kernel
theorem dX6_courtier_56 : decode cX6_courtier 56 = .ok (.ishl, 1) := by decide +kernel
theorem dX6_courtier_57 : decode cX6_courtier 57 = .ok (.goto 4, 3) := by decide +kernel
theorem dX6_courtier_60 : decode cX6_courtier 60 = .ok (.iconst 0, 1) := by decide +kernel
theorem dX6_courtier_61 : decode cX6_courtier 61 = .ok (.ior, 1) := by decide +kernel
theorem dX6_courtier_62 : decode cX6_courtier 62 = .ok (.istore_n 3, 1) := by decide +kernel
theorem dX6_courtier_63 : decode cX6_courtier 63 = .ok (.iload 4, 2) := by decide +kernel
theorem dX6_courtier_65 : decode cX6_courtier 65 = .ok (.aload_n 0, 1) := by decide +kernel
theorem dX6_courtier_66 : decode cX6_courtier 66 = .ok (.iload_n 1, 1) := by decide +kernel
theorem dX6_courtier_67 : decode cX6_courtier 67 = .ok (.iload 5, 2) := by decide +kernel
theorem dX6_courtier_69 : decode cX6_courtier 69 = .ok (.invokevirtual 106, 3) := by decide +kernel
theorem dX6_courtier_72 : decode cX6_courtier 72 = .ok (.ifCond .eq 10, 3) := by decide +kernel
theorem dX6_courtier_75 : decode cX6_courtier 75 = .ok (.iconst 1, 1) := by decide +kernel
theorem dX6_courtier_76 : decode cX6_courtier 76 = .ok (.iload 5, 2) := by decide +kernel
theorem dX6_courtier_78 : decode cX6_courtier 78 = .ok (.ishl, 1) := by decide +kernel
theorem dX6_courtier_79 : decode cX6_courtier 79 = .ok (.goto 4, 3) := by decide +kernel
theorem dX6_courtier_82 : decode cX6_courtier 82 = .ok (.iconst 0, 1) := by decide +kernel
theorem dX6_courtier_83 : decode cX6_courtier 83 = .ok (.ior, 1) := by decide +kernel
theorem dX6_courtier_84 : decode cX6_courtier 84 = .ok (.istore 4, 2) := by decide +kernel
theorem dX6_courtier_86 : decode cX6_courtier 86 = .ok (.iinc 5 1, 3) := by decide +kernel
theorem dX6_courtier_89 : decode cX6_courtier 89 = .ok (.goto (-62), 3) := by decide +kernel
theorem dX6_courtier_92 : decode cX6_courtier 92 = .ok (.iload_n 2, 1) := by decide +kernel
theorem dX6_courtier_93 : decode cX6_courtier 93 = .ok (.ifCond .ne 14, 3) := by decide +kernel
theorem dX6_courtier_96 : decode cX6_courtier 96 = .ok (.aload_n 0, 1) := by decide +kernel
theorem dX6_courtier_97 : decode cX6_courtier 97 = .ok (.getfield 13, 3) := by decide +kernel
theorem dX6_courtier_100 : decode cX6_courtier 100 = .ok (.iconst 2, 1) := by decide +kernel
theorem dX6_courtier_101 : decode cX6_courtier 101 = .ok (.iload_n 1, 1) := by decide +kernel
theorem dX6_courtier_102 : decode cX6_courtier 102 = .ok (.iadd, 1) := by decide +kernel
theorem dX6_courtier_103 : decode cX6_courtier 103 = .ok (.iaload, 1) := by decide +kernel
theorem dX6_courtier_104 : decode cX6_courtier 104 = .ok (.goto 43, 3) := by decide +kernel
theorem dX6_courtier_107 : decode cX6_courtier 107 = .ok (.iload_n 2, 1) := by decide +kernel
theorem dX6_courtier_108 : decode cX6_courtier 108 = .ok (.iconst 1, 1) := by decide +kernel
theorem dX6_courtier_109 : decode cX6_courtier 109 = .ok (.if_icmp .ne 11, 3) := by decide +kernel
theorem dX6_courtier_112 : decode cX6_courtier 112 = .ok (.aload_n 0, 1) := by decide +kernel
theorem dX6_courtier_113 : decode cX6_courtier 113 = .ok (.iload_n 1, 1) := by decide +kernel
theorem dX6_courtier_114 : decode cX6_courtier 114 = .ok (.invokevirtual 113, 3) := by decide +kernel
theorem dX6_courtier_117 : decode cX6_courtier 117 = .ok (.goto 30, 3) := by decide +kernel
theorem dX6_courtier_120 : decode cX6_courtier 120 = .ok (.iload_n 2, 1) := by decide +kernel
theorem dX6_courtier_121 : decode cX6_courtier 121 = .ok (.iconst 2, 1) := by decide +kernel
theorem dX6_courtier_122 : decode cX6_courtier 122 = .ok (.if_icmp .ne 14, 3) := by decide +kernel
theorem dX6_courtier_125 : decode cX6_courtier 125 = .ok (.aload_n 0, 1) := by decide +kernel
theorem dX6_courtier_126 : decode cX6_courtier 126 = .ok (.getfield 22, 3) := by decide +kernel
theorem dX6_courtier_129 : decode cX6_courtier 129 = .ok (.iconst 1, 1) := by decide +kernel
theorem dX6_courtier_130 : decode cX6_courtier 130 = .ok (.iload_n 1, 1) := by decide +kernel
theorem dX6_courtier_131 : decode cX6_courtier 131 = .ok (.iadd, 1) := by decide +kernel
theorem dX6_courtier_132 : decode cX6_courtier 132 = .ok (.iaload, 1) := by decide +kernel
theorem dX6_courtier_133 : decode cX6_courtier 133 = .ok (.goto 14, 3) := by decide +kernel
theorem dX6_courtier_136 : decode cX6_courtier 136 = .ok (.iload_n 2, 1) := by decide +kernel
theorem dX6_courtier_137 : decode cX6_courtier 137 = .ok (.iconst 3, 1) := by decide +kernel
theorem dX6_courtier_138 : decode cX6_courtier 138 = .ok (.if_icmp .ne 7, 3) := by decide +kernel
theorem dX6_courtier_141 : decode cX6_courtier 141 = .ok (.iload_n 3, 1) := by decide +kernel
theorem dX6_courtier_142 : decode cX6_courtier 142 = .ok (.goto 5, 3) := by decide +kernel
theorem dX6_courtier_145 : decode cX6_courtier 145 = .ok (.iload 4, 2) := by decide +kernel
theorem dX6_courtier_147 : decode cX6_courtier 147 = .ok (.ireturn, 1) := by decide +kernel
set_option maxRecDepth 20000 in
theorem ggX6_news_X6_isNews : GoodIn wsX6_news wsX6_isNews := goodIn_r _ [6, 7, 8, 9, 5, 10, 19, 20, 21, 22, 23, 24, 25, 26, 27, 28, 29, 30, 31, 32, 33, 34, 35] (by decide +kernel) (by decide +kernel)
set_option maxRecDepth 20000 in
theorem gX6_news_X6_isNews : GoodIn wsX6_news (wsV RX6 116 RX6 yX6_isNews wsX6_isNews) := goodIn_app (goodIn_of _ (by decide +kernel)) ggX6_news_X6_isNews
set_option maxRecDepth 20000 in
theorem ggX6_news_X6_in : GoodIn wsX6_news wsX6_in := goodIn_r _ [10] (by decide +kernel) (by decide +kernel)
set_option maxRecDepth 20000 in
theorem gX6_news_X6_in : GoodIn wsX6_news (va_wsS RX6 63 yX6_in wsX6_in) := goodIn_app (goodIn_of _ (by decide +kernel)) ggX6_news_X6_in
set_option maxRecDepth 20000 in
theorem ggX6_news_X6_doubters : GoodIn wsX6_news wsX6_doubters := goodIn_r _ [14, 7, 15, 16, 17, 5, 18, 1, 19, 20, 21, 22, 23, 24, 25, 26, 27, 28, 29, 30, 31, 32, 33, 34, 35] (by decide +kernel) (by decide +kernel)
set_option maxRecDepth 20000 in
theorem gX6_news_X6_doubters : GoodIn wsX6_news (wsV RX6 119 RX6 yX6_doubters wsX6_doubters) := goodIn_app (goodIn_of _ (by decide +kernel)) ggX6_news_X6_doubters
theorem dX6_news_0 : decode cX6_news 0 = .ok (.aload_n 0, 1) := by decide +kernel
theorem dX6_news_1 : decode cX6_news 1 = .ok (.iload_n 1, 1) := by decide +kernel
theorem dX6_news_2 : decode cX6_news 2 = .ok (.invokevirtual 116, 3) := by decide +kernel
theorem dX6_news_5 : decode cX6_news 5 = .ok (.ifCond .eq 12, 3) := by decide +kernel
theorem dX6_news_8 : decode cX6_news 8 = .ok (.iload_n 2, 1) := by decide +kernel
theorem dX6_news_9 : decode cX6_news 9 = .ok (.iconst 0, 1) := by decide +kernel
theorem dX6_news_10 : decode cX6_news 10 = .ok (.iconst 1, 1) := by decide +kernel
theorem dX6_news_11 : decode cX6_news 11 = .ok (.invokestatic 63, 3) := by decide +kernel
theorem dX6_news_14 : decode cX6_news 14 = .ok (.ifCond .ne 7, 3) := by decide +kernel
theorem dX6_news_17 : decode cX6_news 17 = .ok (.iconst (-1), 1) := by decide +kernel
theorem dX6_news_18 : decode cX6_news 18 = .ok (.goto 24, 3) := by decide +kernel
theorem dX6_news_21 : decode cX6_news 21 = .ok (.iload_n 2, 1) := by decide +kernel
theorem dX6_news_22 : decode cX6_news 22 = .ok (.ifCond .ne 15, 3) := by decide +kernel
theorem dX6_news_25 : decode cX6_news 25 = .ok (.aload_n 0, 1) := by decide +kernel
theorem dX6_news_26 : decode cX6_news 26 = .ok (.getfield 22, 3) := by decide +kernel
theorem dX6_news_29 : decode cX6_news 29 = .ok (.bipush 8, 2) := by decide +kernel
theorem dX6_news_31 : decode cX6_news 31 = .ok (.iload_n 1, 1) := by decide +kernel
theorem dX6_news_32 : decode cX6_news 32 = .ok (.iadd, 1) := by decide +kernel
theorem dX6_news_33 : decode cX6_news 33 = .ok (.iaload, 1) := by decide +kernel
theorem dX6_news_34 : decode cX6_news 34 = .ok (.goto 8, 3) := by decide +kernel
theorem dX6_news_37 : decode cX6_news 37 = .ok (.aload_n 0, 1) := by decide +kernel
theorem dX6_news_38 : decode cX6_news 38 = .ok (.iload_n 1, 1) := by decide +kernel
theorem dX6_news_39 : decode cX6_news 39 = .ok (.invokevirtual 119, 3) := by decide +kernel
theorem dX6_news_42 : decode cX6_news 42 = .ok (.ireturn, 1) := by decide +kernel
set_option maxRecDepth 20000 in
theorem ggX6_belief_X6_isCourtier : GoodIn wsX6_belief wsX6_isCourtier := goodIn_r _ [6, 7, 8, 9, 5, 10, 15, 16, 17, 18, 19, 20, 21, 22, 23, 24, 25, 26, 27, 28, 29, 30, 31] (by decide +kernel) (by decide +kernel)
set_option maxRecDepth 20000 in
theorem gX6_belief_X6_isCourtier : GoodIn wsX6_belief (wsV RX6 110 RX6 yX6_isCourtier wsX6_isCourtier) := goodIn_app (goodIn_of _ (by decide +kernel)) ggX6_belief_X6_isCourtier
set_option maxRecDepth 20000 in
theorem ggX6_belief_X6_isNews : GoodIn wsX6_belief wsX6_isNews := goodIn_r _ [14, 7, 8, 9, 5, 10, 15, 16, 17, 18, 19, 20, 21, 22, 23, 24, 25, 26, 27, 28, 29, 30, 31] (by decide +kernel) (by decide +kernel)
set_option maxRecDepth 20000 in
theorem gX6_belief_X6_isNews : GoodIn wsX6_belief (wsV RX6 116 RX6 yX6_isNews wsX6_isNews) := goodIn_app (goodIn_of _ (by decide +kernel)) ggX6_belief_X6_isNews
theorem dX6_belief_0 : decode cX6_belief 0 = .ok (.aload_n 0, 1) := by decide +kernel
theorem dX6_belief_1 : decode cX6_belief 1 = .ok (.iload_n 1, 1) := by decide +kernel
theorem dX6_belief_2 : decode cX6_belief 2 = .ok (.invokevirtual 110, 3) := by decide +kernel
theorem dX6_belief_5 : decode cX6_belief 5 = .ok (.ifCond .eq 28, 3) := by decide +kernel
theorem dX6_belief_8 : decode cX6_belief 8 = .ok (.aload_n 0, 1) := by decide +kernel
theorem dX6_belief_9 : decode cX6_belief 9 = .ok (.iload_n 2, 1) := by decide +kernel
theorem dX6_belief_10 : decode cX6_belief 10 = .ok (.invokevirtual 116, 3) := by decide +kernel
theorem dX6_belief_13 : decode cX6_belief 13 = .ok (.ifCond .eq 20, 3) := by decide +kernel
theorem dX6_belief_16 : decode cX6_belief 16 = .ok (.aload_n 0, 1) := by decide +kernel
theorem dX6_belief_17 : decode cX6_belief 17 = .ok (.getfield 22, 3) := by decide +kernel
theorem dX6_belief_20 : decode cX6_belief 20 = .ok (.bipush 14, 2) := by decide +kernel
theorem dX6_belief_22 : decode cX6_belief 22 = .ok (.bipush 7, 2) := by decide +kernel
theorem dX6_belief_24 : decode cX6_belief 24 = .ok (.iload_n 2, 1) := by decide +kernel
theorem dX6_belief_25 : decode cX6_belief 25 = .ok (.imul, 1) := by decide +kernel
theorem dX6_belief_26 : decode cX6_belief 26 = .ok (.iadd, 1) := by decide +kernel
theorem dX6_belief_27 : decode cX6_belief 27 = .ok (.iload_n 1, 1) := by decide +kernel
theorem dX6_belief_28 : decode cX6_belief 28 = .ok (.iadd, 1) := by decide +kernel
theorem dX6_belief_29 : decode cX6_belief 29 = .ok (.iaload, 1) := by decide +kernel
theorem dX6_belief_30 : decode cX6_belief 30 = .ok (.goto 4, 3) := by decide +kernel
theorem dX6_belief_33 : decode cX6_belief 33 = .ok (.iconst (-1), 1) := by decide +kernel
theorem dX6_belief_34 : decode cX6_belief 34 = .ok (.ireturn, 1) := by decide +kernel
theorem dX6_whoAt_0 : decode cX6_whoAt 0 = .ok (.bipush 9, 2) := by decide +kernel
theorem dX6_whoAt_2 : decode cX6_whoAt 2 = .ok (.istore_n 2, 1) := by decide +kernel
theorem dX6_whoAt_3 : decode cX6_whoAt 3 = .ok (.iconst 0, 1) := by decide +kernel
theorem dX6_whoAt_4 : decode cX6_whoAt 4 = .ok (.istore_n 3, 1) := by decide +kernel
theorem dX6_whoAt_5 : decode cX6_whoAt 5 = .ok (.iload_n 3, 1) := by decide +kernel
theorem dX6_whoAt_6 : decode cX6_whoAt 6 = .ok (.aload_n 0, 1) := by decide +kernel
theorem dX6_whoAt_7 : decode cX6_whoAt 7 = .ok (.getfield 13, 3) := by decide +kernel
theorem dX6_whoAt_10 : decode cX6_whoAt 10 = .ok (.iconst 0, 1) := by decide +kernel
theorem dX6_whoAt_11 : decode cX6_whoAt 11 = .ok (.iaload, 1) := by decide +kernel
theorem dX6_whoAt_12 : decode cX6_whoAt 12 = .ok (.if_icmp .ge 27, 3) := by decide +kernel
theorem dX6_whoAt_15 : decode cX6_whoAt 15 = .ok (.aload_n 0, 1) := by decide +kernel
theorem dX6_whoAt_16 : decode cX6_whoAt 16 = .ok (.getfield 22, 3) := by decide +kernel
theorem dX6_whoAt_19 : decode cX6_whoAt 19 = .ok (.iconst 1, 1) := by decide +kernel
theorem dX6_whoAt_20 : decode cX6_whoAt 20 = .ok (.iload_n 3, 1) := by decide +kernel
theorem dX6_whoAt_21 : decode cX6_whoAt 21 = .ok (.iadd, 1) := by decide +kernel
theorem dX6_whoAt_22 : decode cX6_whoAt 22 = .ok (.iaload, 1) := by decide +kernel
theorem dX6_whoAt_23 : decode cX6_whoAt 23 = .ok (.iload_n 1, 1) := by decide +kernel
theorem dX6_whoAt_24 : decode cX6_whoAt 24 = .ok (.if_icmp .ne 7, 3) := by decide +kernel
theorem dX6_whoAt_27 : decode cX6_whoAt 27 = .ok (.iload_n 3, 1) := by decide +kernel
theorem dX6_whoAt_28 : decode cX6_whoAt 28 = .ok (.goto 4, 3) := by decide +kernel
theorem dX6_whoAt_31 : decode cX6_whoAt 31 = .ok (.iload_n 2, 1) := by decide +kernel
theorem dX6_whoAt_32 : decode cX6_whoAt 32 = .ok (.istore_n 2, 1) := by decide +kernel
theorem dX6_whoAt_33 : decode cX6_whoAt 33 = .ok (.iinc 3 1, 3) := by decide +kernel
theorem dX6_whoAt_36 : decode cX6_whoAt 36 = .ok (.goto (-31), 3) := by decide +kernel
theorem dX6_whoAt_39 : decode cX6_whoAt 39 = .ok (.iload_n 2, 1) := by decide +kernel
theorem dX6_whoAt_40 : decode cX6_whoAt 40 = .ok (.ireturn, 1) := by decide +kernel
theorem dX6_apart_0 : decode cX6_apart 0 = .ok (.iload_n 0, 1) := by decide +kernel
theorem dX6_apart_1 : decode cX6_apart 1 = .ok (.iload_n 1, 1) := by decide +kernel
theorem dX6_apart_2 : decode cX6_apart 2 = .ok (.if_icmp .ge 9, 3) := by decide +kernel
theorem dX6_apart_5 : decode cX6_apart 5 = .ok (.iload_n 1, 1) := by decide +kernel
theorem dX6_apart_6 : decode cX6_apart 6 = .ok (.iload_n 0, 1) := by decide +kernel
theorem dX6_apart_7 : decode cX6_apart 7 = .ok (.isub, 1) := by decide +kernel
theorem dX6_apart_8 : decode cX6_apart 8 = .ok (.goto 6, 3) := by decide +kernel
theorem dX6_apart_11 : decode cX6_apart 11 = .ok (.iload_n 0, 1) := by decide +kernel
theorem dX6_apart_12 : decode cX6_apart 12 = .ok (.iload_n 1, 1) := by decide +kernel
theorem dX6_apart_13 : decode cX6_apart 13 = .ok (.isub, 1) := by decide +kernel
theorem dX6_apart_14 : decode cX6_apart 14 = .ok (.ireturn, 1) := by decide +kernel
set_option maxRecDepth 20000 in
theorem ggX6_goesTo_X6_doubts : GoodIn wsX6_goesTo wsX6_doubts := goodIn_r _ [7, 1, 15, 16, 17, 18, 19, 20, 21, 22, 23, 24, 25, 26, 27, 28, 29, 30, 31] (by decide +kernel) (by decide +kernel)
set_option maxRecDepth 20000 in
theorem gX6_goesTo_X6_doubts : GoodIn wsX6_goesTo (wsV RX6 106 RX6 yX6_doubts wsX6_doubts) := goodIn_app (goodIn_of _ (by decide +kernel)) ggX6_goesTo_X6_doubts
set_option maxRecDepth 20000 in
theorem ggX6_goesTo_X6_whoAt : GoodIn wsX6_goesTo wsX6_whoAt := goodIn_r _ [11, 2, 1, 15, 16, 17, 18, 19, 20, 21, 22, 23, 24, 25, 26, 27, 28, 29, 30, 31] (by decide +kernel) (by decide +kernel)
set_option maxRecDepth 20000 in
theorem gX6_goesTo_X6_whoAt : GoodIn wsX6_goesTo (wsV RX6 122 RX6 yX6_whoAt wsX6_whoAt) := goodIn_app (goodIn_of _ (by decide +kernel)) ggX6_goesTo_X6_whoAt
set_option maxRecDepth 20000 in
theorem ggX6_goesTo_X6_apart : GoodIn wsX6_goesTo wsX6_apart := goodIn_r _ [14] (by decide +kernel) (by decide +kernel)
set_option maxRecDepth 20000 in
theorem gX6_goesTo_X6_apart : GoodIn wsX6_goesTo (va_wsS RX6 125 yX6_apart wsX6_apart) := goodIn_app (goodIn_of _ (by decide +kernel)) ggX6_goesTo_X6_apart
theorem dX6_goesTo_0 : decode cX6_goesTo 0 = .ok (.aload_n 0, 1) := by decide +kernel
theorem dX6_goesTo_1 : decode cX6_goesTo 1 = .ok (.getfield 22, 3) := by decide +kernel
theorem dX6_goesTo_4 : decode cX6_goesTo 4 = .ok (.bipush 8, 2) := by decide +kernel
theorem dX6_goesTo_6 : decode cX6_goesTo 6 = .ok (.iload_n 1, 1) := by decide +kernel
theorem dX6_goesTo_7 : decode cX6_goesTo 7 = .ok (.iadd, 1) := by decide +kernel
theorem dX6_goesTo_8 : decode cX6_goesTo 8 = .ok (.iaload, 1) := by decide +kernel
theorem dX6_goesTo_9 : decode cX6_goesTo 9 = .ok (.istore_n 2, 1) := by decide +kernel
theorem dX6_goesTo_10 : decode cX6_goesTo 10 = .ok (.iload_n 2, 1) := by decide +kernel
theorem dX6_goesTo_11 : decode cX6_goesTo 11 = .ok (.bipush 9, 2) := by decide +kernel
theorem dX6_goesTo_13 : decode cX6_goesTo 13 = .ok (.if_icmp .ne 6, 3) := by decide +kernel
theorem dX6_goesTo_16 : decode cX6_goesTo 16 = .ok (.bipush 9, 2) := by decide +kernel
theorem dX6_goesTo_18 : decode cX6_goesTo 18 = .ok (.ireturn, 1) := by decide +kernel
theorem dX6_goesTo_19 : decode cX6_goesTo 19 = .ok (.aload_n 0, 1) := by decide +kernel
theorem dX6_goesTo_20 : decode cX6_goesTo 20 = .ok (.getfield 22, 3) := by decide +kernel
theorem dX6_goesTo_23 : decode cX6_goesTo 23 = .ok (.iconst 1, 1) := by decide +kernel
theorem dX6_goesTo_24 : decode cX6_goesTo 24 = .ok (.iload_n 2, 1) := by decide +kernel
theorem dX6_goesTo_25 : decode cX6_goesTo 25 = .ok (.iadd, 1) := by decide +kernel
theorem dX6_goesTo_26 : decode cX6_goesTo 26 = .ok (.iaload, 1) := by decide +kernel
theorem dX6_goesTo_27 : decode cX6_goesTo 27 = .ok (.istore_n 3, 1) := by decide +kernel
theorem dX6_goesTo_28 : decode cX6_goesTo 28 = .ok (.aload_n 0, 1) := by decide +kernel
theorem dX6_goesTo_29 : decode cX6_goesTo 29 = .ok (.iload_n 2, 1) := by decide +kernel
theorem dX6_goesTo_30 : decode cX6_goesTo 30 = .ok (.iload_n 1, 1) := by decide +kernel
theorem dX6_goesTo_31 : decode cX6_goesTo 31 = .ok (.invokevirtual 106, 3) := by decide +kernel
theorem dX6_goesTo_34 : decode cX6_goesTo 34 = .ok (.ifCond .eq 11, 3) := by decide +kernel
theorem dX6_goesTo_37 : decode cX6_goesTo 37 = .ok (.aload_n 0, 1) := by decide +kernel
theorem dX6_goesTo_38 : decode cX6_goesTo 38 = .ok (.iload_n 3, 1) := by decide +kernel
theorem dX6_goesTo_39 : decode cX6_goesTo 39 = .ok (.iconst 1, 1) := by decide +kernel
theorem dX6_goesTo_40 : decode cX6_goesTo 40 = .ok (.isub, 1) := by decide +kernel
theorem dX6_goesTo_41 : decode cX6_goesTo 41 = .ok (.invokevirtual 122, 3) := by decide +kernel
theorem dX6_goesTo_44 : decode cX6_goesTo 44 = .ok (.ireturn, 1) := by decide +kernel
theorem dX6_goesTo_45 : decode cX6_goesTo 45 = .ok (.iload_n 2, 1) := by decide +kernel
theorem dX6_goesTo_46 : decode cX6_goesTo 46 = .ok (.istore 4, 2) := by decide +kernel
theorem dX6_goesTo_48 : decode cX6_goesTo 48 = .ok (.bipush 99, 2) := by decide +kernel
theorem dX6_goesTo_50 : decode cX6_goesTo 50 = .ok (.istore 5, 2) := by decide +kernel
theorem dX6_goesTo_52 : decode cX6_goesTo 52 = .ok (.iconst 0, 1) := by decide +kernel
theorem dX6_goesTo_53 : decode cX6_goesTo 53 = .ok (.istore 6, 2) := by decide +kernel
theorem dX6_goesTo_55 : decode cX6_goesTo 55 = .ok (.iload 6, 2) := by decide +kernel
theorem dX6_goesTo_57 : decode cX6_goesTo 57 = .ok (.aload_n 0, 1) := by decide +kernel
theorem dX6_goesTo_58 : decode cX6_goesTo 58 = .ok (.getfield 13, 3) := by decide +kernel
theorem dX6_goesTo_61 : decode cX6_goesTo 61 = .ok (.iconst 0, 1) := by decide +kernel
theorem dX6_goesTo_62 : decode cX6_goesTo 62 = .ok (.iaload, 1) := by decide +kernel
theorem dX6_goesTo_63 : decode cX6_goesTo 63 = .ok (.if_icmp .ge 50, 3) := by decide +kernel
theorem dX6_goesTo_66 : decode cX6_goesTo 66 = .ok (.aload_n 0, 1) := by decide +kernel
theorem dX6_goesTo_67 : decode cX6_goesTo 67 = .ok (.iload 6, 2) := by decide +kernel
theorem dX6_goesTo_69 : decode cX6_goesTo 69 = .ok (.invokevirtual 122, 3) := by decide +kernel
theorem dX6_goesTo_72 : decode cX6_goesTo 72 = .ok (.istore 7, 2) := by decide +kernel
theorem dX6_goesTo_74 : decode cX6_goesTo 74 = .ok (.aload_n 0, 1) := by decide +kernel
theorem dX6_goesTo_75 : decode cX6_goesTo 75 = .ok (.iload 7, 2) := by decide +kernel
theorem dX6_goesTo_77 : decode cX6_goesTo 77 = .ok (.iload_n 1, 1) := by decide +kernel
theorem dX6_goesTo_78 : decode cX6_goesTo 78 = .ok (.invokevirtual 106, 3) := by decide +kernel
theorem dX6_goesTo_81 : decode cX6_goesTo 81 = .ok (.ifCond .eq 26, 3) := by decide +kernel
theorem dX6_goesTo_84 : decode cX6_goesTo 84 = .ok (.iload 6, 2) := by decide +kernel
theorem dX6_goesTo_86 : decode cX6_goesTo 86 = .ok (.iload_n 3, 1) := by decide +kernel
theorem dX6_goesTo_87 : decode cX6_goesTo 87 = .ok (.invokestatic 125, 3) := by decide +kernel
theorem dX6_goesTo_90 : decode cX6_goesTo 90 = .ok (.iload 5, 2) := by decide +kernel
theorem dX6_goesTo_92 : decode cX6_goesTo 92 = .ok (.if_icmp .ge 15, 3) := by decide +kernel
theorem dX6_goesTo_95 : decode cX6_goesTo 95 = .ok (.iload 7, 2) := by decide +kernel
theorem dX6_goesTo_97 : decode cX6_goesTo 97 = .ok (.istore 4, 2) := by decide +kernel
theorem dX6_goesTo_99 : decode cX6_goesTo 99 = .ok (.iload 6, 2) := by decide +kernel
theorem dX6_goesTo_101 : decode cX6_goesTo 101 = .ok (.iload_n 3, 1) := by decide +kernel
theorem dX6_goesTo_102 : decode cX6_goesTo 102 = .ok (.invokestatic 125, 3) := by decide +kernel
theorem dX6_goesTo_105 : decode cX6_goesTo 105 = .ok (.istore 5, 2) := by decide +kernel
theorem dX6_goesTo_107 : decode cX6_goesTo 107 = .ok (.iinc 6 1, 3) := by decide +kernel
theorem dX6_goesTo_110 : decode cX6_goesTo 110 = .ok (.goto (-55), 3) := by decide +kernel
theorem dX6_goesTo_113 : decode cX6_goesTo 113 = .ok (.iload 4, 2) := by decide +kernel
theorem dX6_goesTo_115 : decode cX6_goesTo 115 = .ok (.ireturn, 1) := by decide +kernel
theorem dX6_within_0 : decode cX6_within 0 = .ok (.iload_n 0, 1) := by decide +kernel
theorem dX6_within_1 : decode cX6_within 1 = .ok (.ifCond .ge 7, 3) := by decide +kernel
theorem dX6_within_4 : decode cX6_within 4 = .ok (.iconst 0, 1) := by decide +kernel
theorem dX6_within_5 : decode cX6_within 5 = .ok (.goto 15, 3) := by decide +kernel
theorem dX6_within_8 : decode cX6_within 8 = .ok (.iload_n 0, 1) := by decide +kernel
theorem dX6_within_9 : decode cX6_within 9 = .ok (.bipush 9, 2) := by decide +kernel
theorem dX6_within_11 : decode cX6_within 11 = .ok (.if_icmp .le 8, 3) := by decide +kernel
theorem dX6_within_14 : decode cX6_within 14 = .ok (.bipush 9, 2) := by decide +kernel
theorem dX6_within_16 : decode cX6_within 16 = .ok (.goto 4, 3) := by decide +kernel
theorem dX6_within_19 : decode cX6_within 19 = .ok (.iload_n 0, 1) := by decide +kernel
theorem dX6_within_20 : decode cX6_within 20 = .ok (.ireturn, 1) := by decide +kernel
set_option maxRecDepth 20000 in
theorem ggX6_grows_X6_heeded : GoodIn wsX6_grows wsX6_heeded := goodIn_r _ [7, 1, 12, 13, 14, 15, 16, 17, 18, 19, 20, 21, 22, 23, 24, 25, 26, 27, 28] (by decide +kernel) (by decide +kernel)
set_option maxRecDepth 20000 in
theorem gX6_grows_X6_heeded : GoodIn wsX6_grows (wsV RX6 113 RX6 yX6_heeded wsX6_heeded) := goodIn_app (goodIn_of _ (by decide +kernel)) ggX6_grows_X6_heeded
set_option maxRecDepth 20000 in
theorem ggX6_grows_X6_doubts : GoodIn wsX6_grows wsX6_doubts := goodIn_r _ [11, 2, 12, 13, 14, 15, 16, 17, 18, 19, 20, 21, 22, 23, 24, 25, 26, 27, 28] (by decide +kernel) (by decide +kernel)
set_option maxRecDepth 20000 in
theorem gX6_grows_X6_doubts : GoodIn wsX6_grows (wsV RX6 106 RX6 yX6_doubts wsX6_doubts) := goodIn_app (goodIn_of _ (by decide +kernel)) ggX6_grows_X6_doubts
theorem dX6_grows_0 : decode cX6_grows 0 = .ok (.aload_n 0, 1) := by decide +kernel
theorem dX6_grows_1 : decode cX6_grows 1 = .ok (.iload_n 1, 1) := by decide +kernel
theorem dX6_grows_2 : decode cX6_grows 2 = .ok (.invokevirtual 113, 3) := by decide +kernel
theorem dX6_grows_5 : decode cX6_grows 5 = .ok (.istore_n 3, 1) := by decide +kernel
theorem dX6_grows_6 : decode cX6_grows 6 = .ok (.iload_n 3, 1) := by decide +kernel
theorem dX6_grows_7 : decode cX6_grows 7 = .ok (.bipush (-4), 2) := by decide +kernel
theorem dX6_grows_9 : decode cX6_grows 9 = .ok (.if_icmp .eq 16, 3) := by decide +kernel
theorem dX6_grows_12 : decode cX6_grows 12 = .ok (.aload_n 0, 1) := by decide +kernel
theorem dX6_grows_13 : decode cX6_grows 13 = .ok (.iload_n 3, 1) := by decide +kernel
theorem dX6_grows_14 : decode cX6_grows 14 = .ok (.iload_n 2, 1) := by decide +kernel
theorem dX6_grows_15 : decode cX6_grows 15 = .ok (.invokevirtual 106, 3) := by decide +kernel
theorem dX6_grows_18 : decode cX6_grows 18 = .ok (.ifCond .ne 7, 3) := by decide +kernel
theorem dX6_grows_21 : decode cX6_grows 21 = .ok (.iconst 1, 1) := by decide +kernel
theorem dX6_grows_22 : decode cX6_grows 22 = .ok (.goto 4, 3) := by decide +kernel
theorem dX6_grows_25 : decode cX6_grows 25 = .ok (.iconst 0, 1) := by decide +kernel
theorem dX6_grows_26 : decode cX6_grows 26 = .ok (.istore 4, 2) := by decide +kernel
theorem dX6_grows_28 : decode cX6_grows 28 = .ok (.aload_n 0, 1) := by decide +kernel
theorem dX6_grows_29 : decode cX6_grows 29 = .ok (.getfield 13, 3) := by decide +kernel
theorem dX6_grows_32 : decode cX6_grows 32 = .ok (.iconst 2, 1) := by decide +kernel
theorem dX6_grows_33 : decode cX6_grows 33 = .ok (.iload_n 1, 1) := by decide +kernel
theorem dX6_grows_34 : decode cX6_grows 34 = .ok (.iadd, 1) := by decide +kernel
theorem dX6_grows_35 : decode cX6_grows 35 = .ok (.iaload, 1) := by decide +kernel
theorem dX6_grows_36 : decode cX6_grows 36 = .ok (.tableswitch 52 0 2 #[28, 39, 50], 28) := by decide +kernel
theorem dX6_grows_64 : decode cX6_grows 64 = .ok (.iload 4, 2) := by decide +kernel
theorem dX6_grows_66 : decode cX6_grows 66 = .ok (.ifCond .eq 7, 3) := by decide +kernel
theorem dX6_grows_69 : decode cX6_grows 69 = .ok (.iconst 1, 1) := by decide +kernel
theorem dX6_grows_70 : decode cX6_grows 70 = .ok (.goto 4, 3) := by decide +kernel
theorem dX6_grows_73 : decode cX6_grows 73 = .ok (.iconst 0, 1) := by decide +kernel
theorem dX6_grows_74 : decode cX6_grows 74 = .ok (.ireturn, 1) := by decide +kernel
theorem dX6_grows_75 : decode cX6_grows 75 = .ok (.iload 4, 2) := by decide +kernel
theorem dX6_grows_77 : decode cX6_grows 77 = .ok (.ifCond .eq 7, 3) := by decide +kernel
theorem dX6_grows_80 : decode cX6_grows 80 = .ok (.iconst 2, 1) := by decide +kernel
theorem dX6_grows_81 : decode cX6_grows 81 = .ok (.goto 4, 3) := by decide +kernel
theorem dX6_grows_84 : decode cX6_grows 84 = .ok (.iconst 0, 1) := by decide +kernel
theorem dX6_grows_85 : decode cX6_grows 85 = .ok (.ireturn, 1) := by decide +kernel
theorem dX6_grows_86 : decode cX6_grows 86 = .ok (.iconst 0, 1) := by decide +kernel
theorem dX6_grows_87 : decode cX6_grows 87 = .ok (.ireturn, 1) := by decide +kernel
theorem dX6_grows_88 : decode cX6_grows 88 = .ok (.aload_n 0, 1) := by decide +kernel
theorem dX6_grows_89 : decode cX6_grows 89 = .ok (.getfield 22, 3) := by decide +kernel
theorem dX6_grows_92 : decode cX6_grows 92 = .ok (.bipush 8, 2) := by decide +kernel
theorem dX6_grows_94 : decode cX6_grows 94 = .ok (.iload_n 2, 1) := by decide +kernel
theorem dX6_grows_95 : decode cX6_grows 95 = .ok (.iadd, 1) := by decide +kernel
theorem dX6_grows_96 : decode cX6_grows 96 = .ok (.iaload, 1) := by decide +kernel
theorem dX6_grows_97 : decode cX6_grows 97 = .ok (.iload_n 1, 1) := by decide +kernel
theorem dX6_grows_98 : decode cX6_grows 98 = .ok (.if_icmp .ne 7, 3) := by decide +kernel
theorem dX6_grows_101 : decode cX6_grows 101 = .ok (.iconst 0, 1) := by decide +kernel
theorem dX6_grows_102 : decode cX6_grows 102 = .ok (.goto 4, 3) := by decide +kernel
theorem dX6_grows_105 : decode cX6_grows 105 = .ok (.iconst (-1), 1) := by decide +kernel
theorem dX6_grows_106 : decode cX6_grows 106 = .ok (.ireturn, 1) := by decide +kernel
set_option maxRecDepth 20000 in
theorem ggX6_passes_X6_goesTo : GoodIn wsX6_passes wsX6_goesTo := goodIn_r _ [8, 2, 1, 9, 10, 11, 7, 12, 13, 14, 15, 16, 17, 18, 19, 31, 32, 33, 34, 35, 36, 37, 38, 39, 40, 41, 42, 43, 44, 45, 46, 47] (by decide +kernel) (by decide +kernel)
set_option maxRecDepth 20000 in
theorem gX6_passes_X6_goesTo : GoodIn wsX6_passes (wsV RX6 129 RX6 yX6_goesTo wsX6_goesTo) := goodIn_app (goodIn_of _ (by decide +kernel)) ggX6_passes_X6_goesTo
set_option maxRecDepth 20000 in
theorem ggX6_passes_X6_grows : GoodIn wsX6_passes wsX6_grows := goodIn_r _ [23, 1, 2, 24, 25, 26, 7, 27, 9, 10, 11, 12, 31, 32, 33, 34, 35, 36, 37, 38, 39, 40, 41, 42, 43, 44, 45, 46, 47] (by decide +kernel) (by decide +kernel)
set_option maxRecDepth 20000 in
theorem gX6_passes_X6_grows : GoodIn wsX6_passes (wsV RX6 132 RX6 yX6_grows wsX6_grows) := goodIn_app (goodIn_of _ (by decide +kernel)) ggX6_passes_X6_grows
set_option maxRecDepth 20000 in
theorem ggX6_passes_X6_within : GoodIn wsX6_passes wsX6_within := goodIn_r _ [30] (by decide +kernel) (by decide +kernel)
set_option maxRecDepth 20000 in
theorem gX6_passes_X6_within : GoodIn wsX6_passes (va_wsS RX6 135 yX6_within wsX6_within) := goodIn_app (goodIn_of _ (by decide +kernel)) ggX6_passes_X6_within
theorem dX6_passes_0 : decode cX6_passes 0 = .ok (.iconst 0, 1) := by decide +kernel
theorem dX6_passes_1 : decode cX6_passes 1 = .ok (.istore_n 1, 1) := by decide +kernel
theorem dX6_passes_2 : decode cX6_passes 2 = .ok (.iload_n 1, 1) := by decide +kernel
theorem dX6_passes_3 : decode cX6_passes 3 = .ok (.aload_n 0, 1) := by decide +kernel
theorem dX6_passes_4 : decode cX6_passes 4 = .ok (.getfield 13, 3) := by decide +kernel
theorem dX6_passes_7 : decode cX6_passes 7 = .ok (.iconst 1, 1) := by decide +kernel
theorem dX6_passes_8 : decode cX6_passes 8 = .ok (.iaload, 1) := by decide +kernel
theorem dX6_passes_9 : decode cX6_passes 9 = .ok (.if_icmp .ge 23, 3) := by decide +kernel
theorem dX6_passes_12 : decode cX6_passes 12 = .ok (.aload_n 0, 1) := by decide +kernel
theorem dX6_passes_13 : decode cX6_passes 13 = .ok (.getfield 22, 3) := by decide +kernel
theorem dX6_passes_16 : decode cX6_passes 16 = .ok (.bipush 8, 2) := by decide +kernel
theorem dX6_passes_18 : decode cX6_passes 18 = .ok (.iload_n 1, 1) := by decide +kernel
theorem dX6_passes_19 : decode cX6_passes 19 = .ok (.iadd, 1) := by decide +kernel
theorem dX6_passes_20 : decode cX6_passes 20 = .ok (.aload_n 0, 1) := by decide +kernel
theorem dX6_passes_21 : decode cX6_passes 21 = .ok (.iload_n 1, 1) := by decide +kernel
theorem dX6_passes_22 : decode cX6_passes 22 = .ok (.invokevirtual 129, 3) := by decide +kernel
theorem dX6_passes_25 : decode cX6_passes 25 = .ok (.iastore, 1) := by decide +kernel
theorem dX6_passes_26 : decode cX6_passes 26 = .ok (.iinc 1 1, 3) := by decide +kernel
theorem dX6_passes_29 : decode cX6_passes 29 = .ok (.goto (-27), 3) := by decide +kernel
theorem dX6_passes_32 : decode cX6_passes 32 = .ok (.iconst 0, 1) := by decide +kernel
theorem dX6_passes_33 : decode cX6_passes 33 = .ok (.istore_n 1, 1) := by decide +kernel
theorem dX6_passes_34 : decode cX6_passes 34 = .ok (.iload_n 1, 1) := by decide +kernel
theorem dX6_passes_35 : decode cX6_passes 35 = .ok (.aload_n 0, 1) := by decide +kernel
theorem dX6_passes_36 : decode cX6_passes 36 = .ok (.getfield 13, 3) := by decide +kernel
theorem dX6_passes_39 : decode cX6_passes 39 = .ok (.iconst 1, 1) := by decide +kernel
theorem dX6_passes_40 : decode cX6_passes 40 = .ok (.iaload, 1) := by decide +kernel
theorem dX6_passes_41 : decode cX6_passes 41 = .ok (.if_icmp .ge 82, 3) := by decide +kernel
theorem dX6_passes_44 : decode cX6_passes 44 = .ok (.iconst 0, 1) := by decide +kernel
theorem dX6_passes_45 : decode cX6_passes 45 = .ok (.istore_n 2, 1) := by decide +kernel
theorem dX6_passes_46 : decode cX6_passes 46 = .ok (.iload_n 2, 1) := by decide +kernel
theorem dX6_passes_47 : decode cX6_passes 47 = .ok (.aload_n 0, 1) := by decide +kernel
theorem dX6_passes_48 : decode cX6_passes 48 = .ok (.getfield 13, 3) := by decide +kernel
theorem dX6_passes_51 : decode cX6_passes 51 = .ok (.iconst 0, 1) := by decide +kernel
theorem dX6_passes_52 : decode cX6_passes 52 = .ok (.iaload, 1) := by decide +kernel
theorem dX6_passes_53 : decode cX6_passes 53 = .ok (.if_icmp .ge 64, 3) := by decide +kernel
theorem dX6_passes_56 : decode cX6_passes 56 = .ok (.aload_n 0, 1) := by decide +kernel
theorem dX6_passes_57 : decode cX6_passes 57 = .ok (.getfield 22, 3) := by decide +kernel
theorem dX6_passes_60 : decode cX6_passes 60 = .ok (.bipush 14, 2) := by decide +kernel
theorem dX6_passes_62 : decode cX6_passes 62 = .ok (.bipush 7, 2) := by decide +kernel
theorem dX6_passes_64 : decode cX6_passes 64 = .ok (.iload_n 1, 1) := by decide +kernel
theorem dX6_passes_65 : decode cX6_passes 65 = .ok (.imul, 1) := by decide +kernel
theorem dX6_passes_66 : decode cX6_passes 66 = .ok (.iadd, 1) := by decide +kernel
theorem dX6_passes_67 : decode cX6_passes 67 = .ok (.iload_n 2, 1) := by decide +kernel
theorem dX6_passes_68 : decode cX6_passes 68 = .ok (.iadd, 1) := by decide +kernel
theorem dX6_passes_69 : decode cX6_passes 69 = .ok (.iaload, 1) := by decide +kernel
theorem dX6_passes_70 : decode cX6_passes 70 = .ok (.istore_n 3, 1) := by decide +kernel
theorem dX6_passes_71 : decode cX6_passes 71 = .ok (.aload_n 0, 1) := by decide +kernel
theorem dX6_passes_72 : decode cX6_passes 72 = .ok (.getfield 34, 3) := by decide +kernel
theorem dX6_passes_75 : decode cX6_passes 75 = .ok (.bipush 7, 2) := by decide +kernel
theorem dX6_passes_77 : decode cX6_passes 77 = .ok (.iload_n 1, 1) := by decide +kernel
theorem dX6_passes_78 : decode cX6_passes 78 = .ok (.imul, 1) := by decide +kernel
theorem dX6_passes_79 : decode cX6_passes 79 = .ok (.iload_n 2, 1) := by decide +kernel
theorem dX6_passes_80 : decode cX6_passes 80 = .ok (.iadd, 1) := by decide +kernel
theorem dX6_passes_81 : decode cX6_passes 81 = .ok (.aload_n 0, 1) := by decide +kernel
theorem dX6_passes_82 : decode cX6_passes 82 = .ok (.getfield 22, 3) := by decide +kernel
theorem dX6_passes_85 : decode cX6_passes 85 = .ok (.bipush 8, 2) := by decide +kernel
theorem dX6_passes_87 : decode cX6_passes 87 = .ok (.iload_n 1, 1) := by decide +kernel
theorem dX6_passes_88 : decode cX6_passes 88 = .ok (.iadd, 1) := by decide +kernel
theorem dX6_passes_89 : decode cX6_passes 89 = .ok (.iaload, 1) := by decide +kernel
theorem dX6_passes_90 : decode cX6_passes 90 = .ok (.bipush 9, 2) := by decide +kernel
theorem dX6_passes_92 : decode cX6_passes 92 = .ok (.if_icmp .ne 7, 3) := by decide +kernel
theorem dX6_passes_95 : decode cX6_passes 95 = .ok (.iload_n 3, 1) := by decide +kernel
theorem dX6_passes_96 : decode cX6_passes 96 = .ok (.goto 14, 3) := by decide +kernel
theorem dX6_passes_99 : decode cX6_passes 99 = .ok (.iload_n 3, 1) := by decide +kernel
theorem dX6_passes_100 : decode cX6_passes 100 = .ok (.aload_n 0, 1) := by decide +kernel
theorem dX6_passes_101 : decode cX6_passes 101 = .ok (.iload_n 2, 1) := by decide +kernel
theorem dX6_passes_102 : decode cX6_passes 102 = .ok (.iload_n 1, 1) := by decide +kernel
theorem dX6_passes_103 : decode cX6_passes 103 = .ok (.invokevirtual 132, 3) := by decide +kernel
theorem dX6_passes_106 : decode cX6_passes 106 = .ok (.iadd, 1) := by decide +kernel
theorem dX6_passes_107 : decode cX6_passes 107 = .ok (.invokestatic 135, 3) := by decide +kernel
theorem dX6_passes_110 : decode cX6_passes 110 = .ok (.iastore, 1) := by decide +kernel
theorem dX6_passes_111 : decode cX6_passes 111 = .ok (.iinc 2 1, 3) := by decide +kernel
theorem dX6_passes_114 : decode cX6_passes 114 = .ok (.goto (-68), 3) := by decide +kernel
theorem dX6_passes_117 : decode cX6_passes 117 = .ok (.iinc 1 1, 3) := by decide +kernel
theorem dX6_passes_120 : decode cX6_passes 120 = .ok (.goto (-86), 3) := by decide +kernel
theorem dX6_passes_123 : decode cX6_passes 123 = .ok (.iconst 0, 1) := by decide +kernel
theorem dX6_passes_124 : decode cX6_passes 124 = .ok (.istore_n 1, 1) := by decide +kernel
theorem dX6_passes_125 : decode cX6_passes 125 = .ok (.iload_n 1, 1) := by decide +kernel
theorem dX6_passes_126 : decode cX6_passes 126 = .ok (.aload_n 0, 1) := by decide +kernel
theorem dX6_passes_127 : decode cX6_passes 127 = .ok (.getfield 13, 3) := by decide +kernel
theorem dX6_passes_130 : decode cX6_passes 130 = .ok (.iconst 1, 1) := by decide +kernel
theorem dX6_passes_131 : decode cX6_passes 131 = .ok (.iaload, 1) := by decide +kernel
theorem dX6_passes_132 : decode cX6_passes 132 = .ok (.if_icmp .ge 52, 3) := by decide +kernel
theorem dX6_passes_135 : decode cX6_passes 135 = .ok (.iconst 0, 1) := by decide +kernel
theorem dX6_passes_136 : decode cX6_passes 136 = .ok (.istore_n 2, 1) := by decide +kernel
theorem dX6_passes_137 : decode cX6_passes 137 = .ok (.iload_n 2, 1) := by decide +kernel
theorem dX6_passes_138 : decode cX6_passes 138 = .ok (.aload_n 0, 1) := by decide +kernel
theorem dX6_passes_139 : decode cX6_passes 139 = .ok (.getfield 13, 3) := by decide +kernel
theorem dX6_passes_142 : decode cX6_passes 142 = .ok (.iconst 0, 1) := by decide +kernel
theorem dX6_passes_143 : decode cX6_passes 143 = .ok (.iaload, 1) := by decide +kernel
theorem dX6_passes_144 : decode cX6_passes 144 = .ok (.if_icmp .ge 34, 3) := by decide +kernel
theorem dX6_passes_147 : decode cX6_passes 147 = .ok (.aload_n 0, 1) := by decide +kernel
theorem dX6_passes_148 : decode cX6_passes 148 = .ok (.getfield 22, 3) := by decide +kernel
theorem dX6_passes_151 : decode cX6_passes 151 = .ok (.bipush 14, 2) := by decide +kernel
theorem dX6_passes_153 : decode cX6_passes 153 = .ok (.bipush 7, 2) := by decide +kernel
theorem dX6_passes_155 : decode cX6_passes 155 = .ok (.iload_n 1, 1) := by decide +kernel
theorem dX6_passes_156 : decode cX6_passes 156 = .ok (.imul, 1) := by decide +kernel
theorem dX6_passes_157 : decode cX6_passes 157 = .ok (.iadd, 1) := by decide +kernel
theorem dX6_passes_158 : decode cX6_passes 158 = .ok (.iload_n 2, 1) := by decide +kernel
theorem dX6_passes_159 : decode cX6_passes 159 = .ok (.iadd, 1) := by decide +kernel
theorem dX6_passes_160 : decode cX6_passes 160 = .ok (.aload_n 0, 1) := by decide +kernel
theorem dX6_passes_161 : decode cX6_passes 161 = .ok (.getfield 34, 3) := by decide +kernel
theorem dX6_passes_164 : decode cX6_passes 164 = .ok (.bipush 7, 2) := by decide +kernel
theorem dX6_passes_166 : decode cX6_passes 166 = .ok (.iload_n 1, 1) := by decide +kernel
theorem dX6_passes_167 : decode cX6_passes 167 = .ok (.imul, 1) := by decide +kernel
theorem dX6_passes_168 : decode cX6_passes 168 = .ok (.iload_n 2, 1) := by decide +kernel
theorem dX6_passes_169 : decode cX6_passes 169 = .ok (.iadd, 1) := by decide +kernel
theorem dX6_passes_170 : decode cX6_passes 170 = .ok (.iaload, 1) := by decide +kernel
theorem dX6_passes_171 : decode cX6_passes 171 = .ok (.iastore, 1) := by decide +kernel
theorem dX6_passes_172 : decode cX6_passes 172 = .ok (.iinc 2 1, 3) := by decide +kernel
theorem dX6_passes_175 : decode cX6_passes 175 = .ok (.goto (-38), 3) := by decide +kernel
theorem dX6_passes_178 : decode cX6_passes 178 = .ok (.iinc 1 1, 3) := by decide +kernel
theorem dX6_passes_181 : decode cX6_passes 181 = .ok (.goto (-56), 3) := by decide +kernel
theorem dX6_passes_184 : decode cX6_passes 184 = .ok (.aload_n 0, 1) := by decide +kernel
theorem dX6_passes_185 : decode cX6_passes 185 = .ok (.getfield 22, 3) := by decide +kernel
theorem dX6_passes_188 : decode cX6_passes 188 = .ok (.iconst 0, 1) := by decide +kernel
theorem dX6_passes_189 : decode cX6_passes 189 = .ok (.dup2, 1) := by decide +kernel
theorem dX6_passes_190 : decode cX6_passes 190 = .ok (.iaload, 1) := by decide +kernel
theorem dX6_passes_191 : decode cX6_passes 191 = .ok (.iconst 1, 1) := by decide +kernel
theorem dX6_passes_192 : decode cX6_passes 192 = .ok (.iadd, 1) := by decide +kernel
theorem dX6_passes_193 : decode cX6_passes 193 = .ok (.iastore, 1) := by decide +kernel
theorem dX6_passes_194 : decode cX6_passes 194 = .ok (.return_, 1) := by decide +kernel
theorem dX6_manyKnown_0 : decode cX6_manyKnown 0 = .ok (.iconst 0, 1) := by decide +kernel
theorem dX6_manyKnown_1 : decode cX6_manyKnown 1 = .ok (.istore_n 1, 1) := by decide +kernel
theorem dX6_manyKnown_2 : decode cX6_manyKnown 2 = .ok (.iconst 0, 1) := by decide +kernel
theorem dX6_manyKnown_3 : decode cX6_manyKnown 3 = .ok (.istore_n 2, 1) := by decide +kernel
theorem dX6_manyKnown_4 : decode cX6_manyKnown 4 = .ok (.iload_n 2, 1) := by decide +kernel
theorem dX6_manyKnown_5 : decode cX6_manyKnown 5 = .ok (.aload_n 0, 1) := by decide +kernel
theorem dX6_manyKnown_6 : decode cX6_manyKnown 6 = .ok (.getfield 13, 3) := by decide +kernel
theorem dX6_manyKnown_9 : decode cX6_manyKnown 9 = .ok (.iconst 1, 1) := by decide +kernel
theorem dX6_manyKnown_10 : decode cX6_manyKnown 10 = .ok (.iaload, 1) := by decide +kernel
theorem dX6_manyKnown_11 : decode cX6_manyKnown 11 = .ok (.if_icmp .ge 31, 3) := by decide +kernel
theorem dX6_manyKnown_14 : decode cX6_manyKnown 14 = .ok (.iload_n 1, 1) := by decide +kernel
theorem dX6_manyKnown_15 : decode cX6_manyKnown 15 = .ok (.aload_n 0, 1) := by decide +kernel
theorem dX6_manyKnown_16 : decode cX6_manyKnown 16 = .ok (.getfield 22, 3) := by decide +kernel
theorem dX6_manyKnown_19 : decode cX6_manyKnown 19 = .ok (.bipush 8, 2) := by decide +kernel
theorem dX6_manyKnown_21 : decode cX6_manyKnown 21 = .ok (.iload_n 2, 1) := by decide +kernel
theorem dX6_manyKnown_22 : decode cX6_manyKnown 22 = .ok (.iadd, 1) := by decide +kernel
theorem dX6_manyKnown_23 : decode cX6_manyKnown 23 = .ok (.iaload, 1) := by decide +kernel
theorem dX6_manyKnown_24 : decode cX6_manyKnown 24 = .ok (.bipush 9, 2) := by decide +kernel
theorem dX6_manyKnown_26 : decode cX6_manyKnown 26 = .ok (.if_icmp .ne 7, 3) := by decide +kernel
theorem dX6_manyKnown_29 : decode cX6_manyKnown 29 = .ok (.iconst 1, 1) := by decide +kernel
theorem dX6_manyKnown_30 : decode cX6_manyKnown 30 = .ok (.goto 4, 3) := by decide +kernel
theorem dX6_manyKnown_33 : decode cX6_manyKnown 33 = .ok (.iconst 0, 1) := by decide +kernel
theorem dX6_manyKnown_34 : decode cX6_manyKnown 34 = .ok (.iadd, 1) := by decide +kernel
theorem dX6_manyKnown_35 : decode cX6_manyKnown 35 = .ok (.istore_n 1, 1) := by decide +kernel
theorem dX6_manyKnown_36 : decode cX6_manyKnown 36 = .ok (.iinc 2 1, 3) := by decide +kernel
theorem dX6_manyKnown_39 : decode cX6_manyKnown 39 = .ok (.goto (-35), 3) := by decide +kernel
theorem dX6_manyKnown_42 : decode cX6_manyKnown 42 = .ok (.iload_n 1, 1) := by decide +kernel
theorem dX6_manyKnown_43 : decode cX6_manyKnown 43 = .ok (.ireturn, 1) := by decide +kernel
theorem dX6_keeps_0 : decode cX6_keeps 0 = .ok (.aload_n 0, 1) := by decide +kernel
theorem dX6_keeps_1 : decode cX6_keeps 1 = .ok (.getfield 97, 3) := by decide +kernel
theorem dX6_keeps_4 : decode cX6_keeps 4 = .ok (.bipush 8, 2) := by decide +kernel
theorem dX6_keeps_6 : decode cX6_keeps 6 = .ok (.if_icmp .ne 43, 3) := by decide +kernel
theorem dX6_keeps_9 : decode cX6_keeps 9 = .ok (.iconst 0, 1) := by decide +kernel
theorem dX6_keeps_10 : decode cX6_keeps 10 = .ok (.istore_n 1, 1) := by decide +kernel
theorem dX6_keeps_11 : decode cX6_keeps 11 = .ok (.iload_n 1, 1) := by decide +kernel
theorem dX6_keeps_12 : decode cX6_keeps 12 = .ok (.sipush 392, 3) := by decide +kernel
theorem dX6_keeps_15 : decode cX6_keeps 15 = .ok (.if_icmp .ge 24, 3) := by decide +kernel
theorem dX6_keeps_18 : decode cX6_keeps 18 = .ok (.aload_n 0, 1) := by decide +kernel
theorem dX6_keeps_19 : decode cX6_keeps 19 = .ok (.getfield 25, 3) := by decide +kernel
theorem dX6_keeps_22 : decode cX6_keeps 22 = .ok (.iload_n 1, 1) := by decide +kernel
theorem dX6_keeps_23 : decode cX6_keeps 23 = .ok (.aload_n 0, 1) := by decide +kernel
theorem dX6_keeps_24 : decode cX6_keeps 24 = .ok (.getfield 25, 3) := by decide +kernel
theorem dX6_keeps_27 : decode cX6_keeps 27 = .ok (.iload_n 1, 1) := by decide +kernel
theorem dX6_keeps_28 : decode cX6_keeps 28 = .ok (.bipush 56, 2) := by decide +kernel
theorem dX6_keeps_30 : decode cX6_keeps 30 = .ok (.iadd, 1) := by decide +kernel
theorem dX6_keeps_31 : decode cX6_keeps 31 = .ok (.iaload, 1) := by decide +kernel
theorem dX6_keeps_32 : decode cX6_keeps 32 = .ok (.iastore, 1) := by decide +kernel
theorem dX6_keeps_33 : decode cX6_keeps 33 = .ok (.iinc 1 1, 3) := by decide +kernel
theorem dX6_keeps_36 : decode cX6_keeps 36 = .ok (.goto (-25), 3) := by decide +kernel
theorem dX6_keeps_39 : decode cX6_keeps 39 = .ok (.aload_n 0, 1) := by decide +kernel
theorem dX6_keeps_40 : decode cX6_keeps 40 = .ok (.dup, 1) := by decide +kernel
theorem dX6_keeps_41 : decode cX6_keeps 41 = .ok (.getfield 97, 3) := by decide +kernel
theorem dX6_keeps_44 : decode cX6_keeps 44 = .ok (.iconst 1, 1) := by decide +kernel
theorem dX6_keeps_45 : decode cX6_keeps 45 = .ok (.isub, 1) := by decide +kernel
theorem dX6_keeps_46 : decode cX6_keeps 46 = .ok (.putfield 97, 3) := by decide +kernel
theorem dX6_keeps_49 : decode cX6_keeps 49 = .ok (.iconst 0, 1) := by decide +kernel
theorem dX6_keeps_50 : decode cX6_keeps 50 = .ok (.istore_n 1, 1) := by decide +kernel
theorem dX6_keeps_51 : decode cX6_keeps 51 = .ok (.iload_n 1, 1) := by decide +kernel
theorem dX6_keeps_52 : decode cX6_keeps 52 = .ok (.bipush 56, 2) := by decide +kernel
theorem dX6_keeps_54 : decode cX6_keeps 54 = .ok (.if_icmp .ge 29, 3) := by decide +kernel
theorem dX6_keeps_57 : decode cX6_keeps 57 = .ok (.aload_n 0, 1) := by decide +kernel
theorem dX6_keeps_58 : decode cX6_keeps 58 = .ok (.getfield 25, 3) := by decide +kernel
theorem dX6_keeps_61 : decode cX6_keeps 61 = .ok (.bipush 56, 2) := by decide +kernel
theorem dX6_keeps_63 : decode cX6_keeps 63 = .ok (.aload_n 0, 1) := by decide +kernel
theorem dX6_keeps_64 : decode cX6_keeps 64 = .ok (.getfield 97, 3) := by decide +kernel
theorem dX6_keeps_67 : decode cX6_keeps 67 = .ok (.imul, 1) := by decide +kernel
theorem dX6_keeps_68 : decode cX6_keeps 68 = .ok (.iload_n 1, 1) := by decide +kernel
theorem dX6_keeps_69 : decode cX6_keeps 69 = .ok (.iadd, 1) := by decide +kernel
theorem dX6_keeps_70 : decode cX6_keeps 70 = .ok (.aload_n 0, 1) := by decide +kernel
theorem dX6_keeps_71 : decode cX6_keeps 71 = .ok (.getfield 22, 3) := by decide +kernel
theorem dX6_keeps_74 : decode cX6_keeps 74 = .ok (.iload_n 1, 1) := by decide +kernel
theorem dX6_keeps_75 : decode cX6_keeps 75 = .ok (.iaload, 1) := by decide +kernel
theorem dX6_keeps_76 : decode cX6_keeps 76 = .ok (.iastore, 1) := by decide +kernel
theorem dX6_keeps_77 : decode cX6_keeps 77 = .ok (.iinc 1 1, 3) := by decide +kernel
theorem dX6_keeps_80 : decode cX6_keeps 80 = .ok (.goto (-29), 3) := by decide +kernel
theorem dX6_keeps_83 : decode cX6_keeps 83 = .ok (.aload_n 0, 1) := by decide +kernel
theorem dX6_keeps_84 : decode cX6_keeps 84 = .ok (.dup, 1) := by decide +kernel
theorem dX6_keeps_85 : decode cX6_keeps 85 = .ok (.getfield 97, 3) := by decide +kernel
theorem dX6_keeps_88 : decode cX6_keeps 88 = .ok (.iconst 1, 1) := by decide +kernel
theorem dX6_keeps_89 : decode cX6_keeps 89 = .ok (.iadd, 1) := by decide +kernel
theorem dX6_keeps_90 : decode cX6_keeps 90 = .ok (.putfield 97, 3) := by decide +kernel
theorem dX6_keeps_93 : decode cX6_keeps 93 = .ok (.return_, 1) := by decide +kernel
set_option maxRecDepth 20000 in
theorem ggX6_pass_X6_in : GoodIn wsX6_pass wsX6_in := goodIn_r _ [5] (by decide +kernel) (by decide +kernel)
set_option maxRecDepth 20000 in
theorem gX6_pass_X6_in : GoodIn wsX6_pass (va_wsS RX6 63 yX6_in wsX6_in) := goodIn_app (goodIn_of _ (by decide +kernel)) ggX6_pass_X6_in
set_option maxRecDepth 20000 in
theorem ggX6_pass_X6_keeps : GoodIn wsX6_pass wsX6_keeps := goodIn_r _ [9, 10, 11, 1, 48, 49, 50, 51, 52, 53, 54, 55, 56, 57, 58, 59, 60, 61, 62, 63, 64] (by decide +kernel) (by decide +kernel)
set_option maxRecDepth 20000 in
theorem gX6_pass_X6_keeps : GoodIn wsX6_pass (wsV RX6 138 RX6 yX6_keeps wsX6_keeps) := goodIn_app (goodIn_of _ (by decide +kernel)) ggX6_pass_X6_keeps
set_option maxRecDepth 20000 in
theorem ggX6_pass_X6_passes : GoodIn wsX6_pass wsX6_passes := goodIn_r _ [15, 16, 1, 17, 18, 19, 20, 4, 21, 22, 23, 24, 25, 26, 27, 28, 29, 30, 31, 32, 33, 34, 35, 36, 37, 38, 39, 40, 41, 42, 43, 48, 49, 50, 51, 52, 53, 54, 55, 56, 57, 58, 59, 60, 61, 62, 63, 64] (by decide +kernel) (by decide +kernel)
set_option maxRecDepth 20000 in
theorem gX6_pass_X6_passes : GoodIn wsX6_pass (wsV RX6 141 RX6 yX6_passes wsX6_passes) := goodIn_app (goodIn_of _ (by decide +kernel)) ggX6_pass_X6_passes
set_option maxRecDepth 20000 in
theorem ggX6_pass_X6_manyKnown : GoodIn wsX6_pass wsX6_manyKnown := goodIn_r _ [47, 16, 1, 48, 49, 50, 51, 52, 53, 54, 55, 56, 57, 58, 59, 60, 61, 62, 63, 64] (by decide +kernel) (by decide +kernel)
set_option maxRecDepth 20000 in
theorem gX6_pass_X6_manyKnown : GoodIn wsX6_pass (wsV RX6 144 RX6 yX6_manyKnown wsX6_manyKnown) := goodIn_app (goodIn_of _ (by decide +kernel)) ggX6_pass_X6_manyKnown
theorem dX6_pass_0 : decode cX6_pass 0 = .ok (.iload_n 1, 1) := by decide +kernel
theorem dX6_pass_1 : decode cX6_pass 1 = .ok (.iconst 1, 1) := by decide +kernel
theorem dX6_pass_2 : decode cX6_pass 2 = .ok (.bipush 24, 2) := by decide +kernel
theorem dX6_pass_4 : decode cX6_pass 4 = .ok (.invokestatic 63, 3) := by decide +kernel
theorem dX6_pass_7 : decode cX6_pass 7 = .ok (.ifCond .ne 5, 3) := by decide +kernel
theorem dX6_pass_10 : decode cX6_pass 10 = .ok (.iconst (-1), 1) := by decide +kernel
theorem dX6_pass_11 : decode cX6_pass 11 = .ok (.ireturn, 1) := by decide +kernel
theorem dX6_pass_12 : decode cX6_pass 12 = .ok (.aload_n 0, 1) := by decide +kernel
theorem dX6_pass_13 : decode cX6_pass 13 = .ok (.getfield 22, 3) := by decide +kernel
theorem dX6_pass_16 : decode cX6_pass 16 = .ok (.iconst 0, 1) := by decide +kernel
theorem dX6_pass_17 : decode cX6_pass 17 = .ok (.iaload, 1) := by decide +kernel
theorem dX6_pass_18 : decode cX6_pass 18 = .ok (.iload_n 1, 1) := by decide +kernel
theorem dX6_pass_19 : decode cX6_pass 19 = .ok (.iadd, 1) := by decide +kernel
theorem dX6_pass_20 : decode cX6_pass 20 = .ok (.sipush 999, 3) := by decide +kernel
theorem dX6_pass_23 : decode cX6_pass 23 = .ok (.if_icmp .le 6, 3) := by decide +kernel
theorem dX6_pass_26 : decode cX6_pass 26 = .ok (.bipush (-2), 2) := by decide +kernel
theorem dX6_pass_28 : decode cX6_pass 28 = .ok (.ireturn, 1) := by decide +kernel
theorem dX6_pass_29 : decode cX6_pass 29 = .ok (.aload_n 0, 1) := by decide +kernel
theorem dX6_pass_30 : decode cX6_pass 30 = .ok (.invokevirtual 138, 3) := by decide +kernel
theorem dX6_pass_33 : decode cX6_pass 33 = .ok (.iconst 0, 1) := by decide +kernel
theorem dX6_pass_34 : decode cX6_pass 34 = .ok (.istore_n 2, 1) := by decide +kernel
theorem dX6_pass_35 : decode cX6_pass 35 = .ok (.iload_n 2, 1) := by decide +kernel
theorem dX6_pass_36 : decode cX6_pass 36 = .ok (.iload_n 1, 1) := by decide +kernel
theorem dX6_pass_37 : decode cX6_pass 37 = .ok (.if_icmp .ge 13, 3) := by decide +kernel
theorem dX6_pass_40 : decode cX6_pass 40 = .ok (.aload_n 0, 1) := by decide +kernel
theorem dX6_pass_41 : decode cX6_pass 41 = .ok (.invokevirtual 141, 3) := by decide +kernel
theorem dX6_pass_44 : decode cX6_pass 44 = .ok (.iinc 2 1, 3) := by decide +kernel
theorem dX6_pass_47 : decode cX6_pass 47 = .ok (.goto (-12), 3) := by decide +kernel
theorem dX6_pass_50 : decode cX6_pass 50 = .ok (.aload_n 0, 1) := by decide +kernel
theorem dX6_pass_51 : decode cX6_pass 51 = .ok (.invokevirtual 144, 3) := by decide +kernel
theorem dX6_pass_54 : decode cX6_pass 54 = .ok (.ireturn, 1) := by decide +kernel
set_option maxRecDepth 20000 in
theorem ggX6_prove_X6_isCourtier : GoodIn wsX6_prove wsX6_isCourtier := goodIn_r _ [6, 7, 8, 9, 5, 10, 24, 25, 26, 27, 28, 29, 30, 31, 32, 33, 34, 35, 36, 37, 38, 39, 40] (by decide +kernel) (by decide +kernel)
set_option maxRecDepth 20000 in
theorem gX6_prove_X6_isCourtier : GoodIn wsX6_prove (wsV RX6 110 RX6 yX6_isCourtier wsX6_isCourtier) := goodIn_app (goodIn_of _ (by decide +kernel)) ggX6_prove_X6_isCourtier
set_option maxRecDepth 20000 in
theorem ggX6_prove_X6_isNews : GoodIn wsX6_prove wsX6_isNews := goodIn_r _ [14, 7, 8, 9, 5, 10, 24, 25, 26, 27, 28, 29, 30, 31, 32, 33, 34, 35, 36, 37, 38, 39, 40] (by decide +kernel) (by decide +kernel)
set_option maxRecDepth 20000 in
theorem gX6_prove_X6_isNews : GoodIn wsX6_prove (wsV RX6 116 RX6 yX6_isNews wsX6_isNews) := goodIn_app (goodIn_of _ (by decide +kernel)) ggX6_prove_X6_isNews
set_option maxRecDepth 20000 in
theorem ggX6_prove_X6_in : GoodIn wsX6_prove wsX6_in := goodIn_r _ [10] (by decide +kernel) (by decide +kernel)
set_option maxRecDepth 20000 in
theorem gX6_prove_X6_in : GoodIn wsX6_prove (va_wsS RX6 63 yX6_in wsX6_in) := goodIn_app (goodIn_of _ (by decide +kernel)) ggX6_prove_X6_in
set_option maxRecDepth 20000 in
theorem ggX6_prove_X6_within : GoodIn wsX6_prove wsX6_within := goodIn_r _ [17] (by decide +kernel) (by decide +kernel)
set_option maxRecDepth 20000 in
theorem gX6_prove_X6_within : GoodIn wsX6_prove (va_wsS RX6 135 yX6_within wsX6_within) := goodIn_app (goodIn_of _ (by decide +kernel)) ggX6_prove_X6_within
set_option maxRecDepth 20000 in
theorem ggX6_prove_X6_keeps : GoodIn wsX6_prove wsX6_keeps := goodIn_r _ [21, 22, 23, 1, 24, 25, 26, 27, 28, 29, 30, 31, 32, 33, 34, 35, 36, 37, 38, 39, 40] (by decide +kernel) (by decide +kernel)
set_option maxRecDepth 20000 in
theorem gX6_prove_X6_keeps : GoodIn wsX6_prove (wsV RX6 138 RX6 yX6_keeps wsX6_keeps) := goodIn_app (goodIn_of _ (by decide +kernel)) ggX6_prove_X6_keeps
theorem dX6_prove_0 : decode cX6_prove 0 = .ok (.aload_n 0, 1) := by decide +kernel
theorem dX6_prove_1 : decode cX6_prove 1 = .ok (.iload_n 1, 1) := by decide +kernel
theorem dX6_prove_2 : decode cX6_prove 2 = .ok (.invokevirtual 110, 3) := by decide +kernel
theorem dX6_prove_5 : decode cX6_prove 5 = .ok (.ifCond .eq 22, 3) := by decide +kernel
theorem dX6_prove_8 : decode cX6_prove 8 = .ok (.aload_n 0, 1) := by decide +kernel
theorem dX6_prove_9 : decode cX6_prove 9 = .ok (.iload_n 2, 1) := by decide +kernel
theorem dX6_prove_10 : decode cX6_prove 10 = .ok (.invokevirtual 116, 3) := by decide +kernel
theorem dX6_prove_13 : decode cX6_prove 13 = .ok (.ifCond .eq 14, 3) := by decide +kernel
theorem dX6_prove_16 : decode cX6_prove 16 = .ok (.iload_n 3, 1) := by decide +kernel
theorem dX6_prove_17 : decode cX6_prove 17 = .ok (.bipush (-9), 2) := by decide +kernel
theorem dX6_prove_19 : decode cX6_prove 19 = .ok (.bipush 9, 2) := by decide +kernel
theorem dX6_prove_21 : decode cX6_prove 21 = .ok (.invokestatic 63, 3) := by decide +kernel
theorem dX6_prove_24 : decode cX6_prove 24 = .ok (.ifCond .ne 5, 3) := by decide +kernel
theorem dX6_prove_27 : decode cX6_prove 27 = .ok (.iconst (-1), 1) := by decide +kernel
theorem dX6_prove_28 : decode cX6_prove 28 = .ok (.ireturn, 1) := by decide +kernel
theorem dX6_prove_29 : decode cX6_prove 29 = .ok (.bipush 14, 2) := by decide +kernel
theorem dX6_prove_31 : decode cX6_prove 31 = .ok (.bipush 7, 2) := by decide +kernel
theorem dX6_prove_33 : decode cX6_prove 33 = .ok (.iload_n 2, 1) := by decide +kernel
theorem dX6_prove_34 : decode cX6_prove 34 = .ok (.imul, 1) := by decide +kernel
theorem dX6_prove_35 : decode cX6_prove 35 = .ok (.iadd, 1) := by decide +kernel
theorem dX6_prove_36 : decode cX6_prove 36 = .ok (.iload_n 1, 1) := by decide +kernel
theorem dX6_prove_37 : decode cX6_prove 37 = .ok (.iadd, 1) := by decide +kernel
theorem dX6_prove_38 : decode cX6_prove 38 = .ok (.istore 4, 2) := by decide +kernel
theorem dX6_prove_40 : decode cX6_prove 40 = .ok (.aload_n 0, 1) := by decide +kernel
theorem dX6_prove_41 : decode cX6_prove 41 = .ok (.getfield 22, 3) := by decide +kernel
theorem dX6_prove_44 : decode cX6_prove 44 = .ok (.iload 4, 2) := by decide +kernel
theorem dX6_prove_46 : decode cX6_prove 46 = .ok (.iaload, 1) := by decide +kernel
