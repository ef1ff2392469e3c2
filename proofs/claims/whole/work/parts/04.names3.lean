theorem dX4_takes_9 : decode cX4_takes 9 = .ok (.ireturn, 1) := by decide +kernel
theorem dX4_takes_10 : decode cX4_takes 10 = .ok (.aload_n 0, 1) := by decide +kernel
theorem dX4_takes_11 : decode cX4_takes 11 = .ok (.dup, 1) := by decide +kernel
theorem dX4_takes_12 : decode cX4_takes 12 = .ok (.getfield 24, 3) := by decide +kernel
theorem dX4_takes_15 : decode cX4_takes 15 = .ok (.iconst 1, 1) := by decide +kernel
theorem dX4_takes_16 : decode cX4_takes 16 = .ok (.iadd, 1) := by decide +kernel
theorem dX4_takes_17 : decode cX4_takes 17 = .ok (.putfield 24, 3) := by decide +kernel
theorem dX4_takes_20 : decode cX4_takes 20 = .ok (.iconst 1, 1) := by decide +kernel
theorem dX4_takes_21 : decode cX4_takes 21 = .ok (.ireturn, 1) := by decide +kernel
theorem dX4_next_0 : decode cX4_next 0 = .ok (.aload_n 0, 1) := by decide +kernel
theorem dX4_next_1 : decode cX4_next 1 = .ok (.getfield 24, 3) := by decide +kernel
theorem dX4_next_4 : decode cX4_next 4 = .ok (.ifCond .lt 38, 3) := by decide +kernel
theorem dX4_next_7 : decode cX4_next 7 = .ok (.aload_n 0, 1) := by decide +kernel
theorem dX4_next_8 : decode cX4_next 8 = .ok (.getfield 24, 3) := by decide +kernel
theorem dX4_next_11 : decode cX4_next 11 = .ok (.aload_n 0, 1) := by decide +kernel
theorem dX4_next_12 : decode cX4_next 12 = .ok (.getfield 15, 3) := by decide +kernel
theorem dX4_next_15 : decode cX4_next 15 = .ok (.if_icmp .ge 27, 3) := by decide +kernel
theorem dX4_next_18 : decode cX4_next 18 = .ok (.aload_n 0, 1) := by decide +kernel
theorem dX4_next_19 : decode cX4_next 19 = .ok (.getfield 24, 3) := by decide +kernel
theorem dX4_next_22 : decode cX4_next 22 = .ok (.aload_n 0, 1) := by decide +kernel
theorem dX4_next_23 : decode cX4_next 23 = .ok (.getfield 9, 3) := by decide +kernel
theorem dX4_next_26 : decode cX4_next 26 = .ok (.arraylength, 1) := by decide +kernel
theorem dX4_next_27 : decode cX4_next 27 = .ok (.if_icmp .ge 15, 3) := by decide +kernel
theorem dX4_next_30 : decode cX4_next 30 = .ok (.aload_n 0, 1) := by decide +kernel
theorem dX4_next_31 : decode cX4_next 31 = .ok (.getfield 9, 3) := by decide +kernel
theorem dX4_next_34 : decode cX4_next 34 = .ok (.aload_n 0, 1) := by decide +kernel
theorem dX4_next_35 : decode cX4_next 35 = .ok (.getfield 24, 3) := by decide +kernel
theorem dX4_next_38 : decode cX4_next 38 = .ok (.caload, 1) := by decide +kernel
theorem dX4_next_39 : decode cX4_next 39 = .ok (.goto 4, 3) := by decide +kernel
theorem dX4_next_42 : decode cX4_next 42 = .ok (.iconst 0, 1) := by decide +kernel
theorem dX4_next_43 : decode cX4_next 43 = .ok (.ireturn, 1) := by decide +kernel
set_option maxRecDepth 20000 in
theorem ggX5_init_X4_init : GoodIn wsX5_init wsX4_init := goodIn_r _ [28, 29, 2, 3, 30, 31, 182, 183, 184] (by decide +kernel) (by decide +kernel)
set_option maxRecDepth 20000 in
theorem gX5_init_X4_init_n11 : GoodIn wsX5_init (wsX4_init) := ggX5_init_X4_init
set_option maxRecDepth 20000 in
theorem ggX5_init_X0_init : GoodIn wsX5_init wsX0_init := goodIn_r _ [33, 34, 2, 3, 35, 36, 37, 38, 39, 40, 41, 193, 194, 195, 196, 197, 198, 199, 200, 201] (by decide +kernel) (by decide +kernel)
set_option maxRecDepth 20000 in
theorem gX5_init_X0_init_n18 : GoodIn wsX5_init (wsX0_init) := ggX5_init_X0_init
set_option maxRecDepth 20000 in
theorem ggX5_init_X2_init : GoodIn wsX5_init wsX2_init := goodIn_r _ [44, 45, 2, 3, 46, 47, 9, 10, 32, 33, 34, 35, 36, 37, 38, 39, 40, 41, 202, 203, 193, 194, 195, 196, 197, 198, 199, 200, 201] (by decide +kernel) (by decide +kernel)
set_option maxRecDepth 20000 in
theorem gX5_init_X2_init : GoodIn wsX5_init (wsX2_init) := ggX5_init_X2_init
set_option maxRecDepth 20000 in
theorem ggX5_init_X3_init : GoodIn wsX5_init wsX3_init := goodIn_r _ [49, 50, 2, 3, 35, 51, 52, 204, 205, 206] (by decide +kernel) (by decide +kernel)
set_option maxRecDepth 20000 in
theorem gX5_init_X3_init_n40 : GoodIn wsX5_init (wsX3_init) := ggX5_init_X3_init
set_option maxRecDepth 20000 in
theorem ggX5_init_X1_init : GoodIn wsX5_init wsX1_init := goodIn_r _ [54, 55, 2, 3, 35, 56, 207] (by decide +kernel) (by decide +kernel)
set_option maxRecDepth 20000 in
theorem gX5_init_X1_init_n47 : GoodIn wsX5_init (wsX1_init) := ggX5_init_X1_init
set_option maxRecDepth 20000 in
theorem ggX5_init_J0_length_8abf5 : GoodIn wsX5_init wsJ0_length_8abf5 := goodIn_r _ [61, 62, 63, 64, 65, 60, 66, 67, 68] (by decide +kernel) (by decide +kernel)
set_option maxRecDepth 20000 in
theorem gX5_init_J0_length_8abf5 : GoodIn wsX5_init (wsV RX5 57 RJ0 yJ0_length_8abf5 wsJ0_length_8abf5) := goodIn_app (goodIn_of _ (by decide +kernel)) ggX5_init_J0_length_8abf5
set_option maxRecDepth 20000 in
theorem ggX5_init_J0_charAt_5068e : GoodIn wsX5_init wsJ0_charAt_5068e := goodIn_r _ [72, 62, 73, 74, 75, 60, 76, 67, 68, 77, 78, 79, 80, 81, 82, 83, 84, 85, 86, 87, 88, 89, 90, 91, 92, 93, 94, 95, 96, 97, 98, 99, 100, 101, 102, 103, 104, 105] (by decide +kernel) (by decide +kernel)
set_option maxRecDepth 20000 in
theorem gX5_init_J0_charAt_5068e : GoodIn wsX5_init (wsV RX5 63 RJ0 yJ0_charAt_5068e wsJ0_charAt_5068e) := goodIn_app (goodIn_of _ (by decide +kernel)) ggX5_init_J0_charAt_5068e
set_option maxRecDepth 20000 in
theorem ggX5_init_X4_append : GoodIn wsX5_init wsX4_append := goodIn_r _ [109, 110, 31, 182, 183, 184] (by decide +kernel) (by decide +kernel)
set_option maxRecDepth 20000 in
theorem gX5_init_X4_append : GoodIn wsX5_init (wsV RX5 67 RX4 yX4_append wsX4_append) := goodIn_app (goodIn_of _ (by decide +kernel)) ggX5_init_X4_append
set_option maxRecDepth 20000 in
theorem ggX5_init_X4_readInto : GoodIn wsX5_init wsX4_readInto := goodIn_r _ [114, 115, 110, 116, 117, 118, 10, 119, 41, 120, 121, 122, 123, 124, 125, 6, 126, 127, 128, 129, 130, 131, 132, 133, 134, 31, 135, 136, 137, 138, 139, 140, 141, 142, 143, 144, 145, 146, 147, 148, 149, 150, 151, 152, 153, 36, 37, 38, 39, 154, 155, 156, 157, 158, 159, 160, 161, 162, 163, 40, 164, 165, 166, 167, 168, 169, 170, 171, 172, 173, 174, 175, 176, 177, 182, 183, 184, 193, 194, 195, 196, 197, 198, 199, 200, 201] (by decide +kernel) (by decide +kernel)
set_option maxRecDepth 20000 in
theorem gX5_init_X4_readInto : GoodIn wsX5_init (wsV RX5 71 RX4 yX4_readInto wsX4_readInto) := goodIn_app (goodIn_of _ (by decide +kernel)) ggX5_init_X4_readInto
set_option maxRecDepth 20000 in
theorem ggX5_init_X4_clear : GoodIn wsX5_init wsX4_clear := goodIn_r _ [181, 110, 182, 183, 184] (by decide +kernel) (by decide +kernel)
set_option maxRecDepth 20000 in
theorem gX5_init_X4_clear : GoodIn wsX5_init (wsV RX5 75 RX4 yX4_clear wsX4_clear) := goodIn_app (goodIn_of _ (by decide +kernel)) ggX5_init_X4_clear
theorem dX5_init_0 : decode cX5_init 0 = .ok (.aload_n 0, 1) := by decide +kernel
theorem dX5_init_1 : decode cX5_init 1 = .ok (.invokespecial 3, 3) := by decide +kernel
theorem dX5_init_4 : decode cX5_init 4 = .ok (.aload_n 0, 1) := by decide +kernel
theorem dX5_init_5 : decode cX5_init 5 = .ok (.new 9, 3) := by decide +kernel
theorem dX5_init_8 : decode cX5_init 8 = .ok (.dup, 1) := by decide +kernel
theorem dX5_init_9 : decode cX5_init 9 = .ok (.invokespecial 11, 3) := by decide +kernel
theorem dX5_init_12 : decode cX5_init 12 = .ok (.putfield 12, 3) := by decide +kernel
theorem dX5_init_15 : decode cX5_init 15 = .ok (.aload_n 0, 1) := by decide +kernel
theorem dX5_init_16 : decode cX5_init 16 = .ok (.new 16, 3) := by decide +kernel
theorem dX5_init_19 : decode cX5_init 19 = .ok (.dup, 1) := by decide +kernel
theorem dX5_init_20 : decode cX5_init 20 = .ok (.invokespecial 18, 3) := by decide +kernel
theorem dX5_init_23 : decode cX5_init 23 = .ok (.putfield 19, 3) := by decide +kernel
theorem dX5_init_26 : decode cX5_init 26 = .ok (.aload_n 0, 1) := by decide +kernel
theorem dX5_init_27 : decode cX5_init 27 = .ok (.new 16, 3) := by decide +kernel
theorem dX5_init_30 : decode cX5_init 30 = .ok (.dup, 1) := by decide +kernel
theorem dX5_init_31 : decode cX5_init 31 = .ok (.invokespecial 18, 3) := by decide +kernel
theorem dX5_init_34 : decode cX5_init 34 = .ok (.putfield 23, 3) := by decide +kernel
theorem dX5_init_37 : decode cX5_init 37 = .ok (.aload_n 0, 1) := by decide +kernel
theorem dX5_init_38 : decode cX5_init 38 = .ok (.new 26, 3) := by decide +kernel
theorem dX5_init_41 : decode cX5_init 41 = .ok (.dup, 1) := by decide +kernel
theorem dX5_init_42 : decode cX5_init 42 = .ok (.bipush 8, 2) := by decide +kernel
theorem dX5_init_44 : decode cX5_init 44 = .ok (.invokespecial 28, 3) := by decide +kernel
theorem dX5_init_47 : decode cX5_init 47 = .ok (.putfield 31, 3) := by decide +kernel
theorem dX5_init_50 : decode cX5_init 50 = .ok (.aload_n 0, 1) := by decide +kernel
theorem dX5_init_51 : decode cX5_init 51 = .ok (.new 26, 3) := by decide +kernel
theorem dX5_init_54 : decode cX5_init 54 = .ok (.dup, 1) := by decide +kernel
theorem dX5_init_55 : decode cX5_init 55 = .ok (.iconst 2, 1) := by decide +kernel
theorem dX5_init_56 : decode cX5_init 56 = .ok (.invokespecial 28, 3) := by decide +kernel
theorem dX5_init_59 : decode cX5_init 59 = .ok (.putfield 35, 3) := by decide +kernel
theorem dX5_init_62 : decode cX5_init 62 = .ok (.aload_n 0, 1) := by decide +kernel
theorem dX5_init_63 : decode cX5_init 63 = .ok (.new 38, 3) := by decide +kernel
theorem dX5_init_66 : decode cX5_init 66 = .ok (.dup, 1) := by decide +kernel
theorem dX5_init_67 : decode cX5_init 67 = .ok (.invokespecial 40, 3) := by decide +kernel
theorem dX5_init_70 : decode cX5_init 70 = .ok (.putfield 41, 3) := by decide +kernel
theorem dX5_init_73 : decode cX5_init 73 = .ok (.aload_n 0, 1) := by decide +kernel
theorem dX5_init_74 : decode cX5_init 74 = .ok (.new 45, 3) := by decide +kernel
theorem dX5_init_77 : decode cX5_init 77 = .ok (.dup, 1) := by decide +kernel
theorem dX5_init_78 : decode cX5_init 78 = .ok (.invokespecial 47, 3) := by decide +kernel
theorem dX5_init_81 : decode cX5_init 81 = .ok (.putfield 48, 3) := by decide +kernel
theorem dX5_init_84 : decode cX5_init 84 = .ok (.aload_n 0, 1) := by decide +kernel
theorem dX5_init_85 : decode cX5_init 85 = .ok (.new 26, 3) := by decide +kernel
theorem dX5_init_88 : decode cX5_init 88 = .ok (.dup, 1) := by decide +kernel
theorem dX5_init_89 : decode cX5_init 89 = .ok (.bipush 9, 2) := by decide +kernel
theorem dX5_init_91 : decode cX5_init 91 = .ok (.invokespecial 28, 3) := by decide +kernel
theorem dX5_init_94 : decode cX5_init 94 = .ok (.putfield 52, 3) := by decide +kernel
theorem dX5_init_97 : decode cX5_init 97 = .ok (.iconst 0, 1) := by decide +kernel
theorem dX5_init_98 : decode cX5_init 98 = .ok (.istore_n 1, 1) := by decide +kernel
theorem dX5_init_99 : decode cX5_init 99 = .ok (.iload_n 1, 1) := by decide +kernel
theorem dX5_init_100 : decode cX5_init 100 = .ok (.ldc 55, 2) := by decide +kernel
theorem dX5_init_102 : decode cX5_init 102 = .ok (.invokevirtual 57, 3) := by decide +kernel
theorem dX5_init_105 : decode cX5_init 105 = .ok (.if_icmp .ge 22, 3) := by decide +kernel
theorem dX5_init_108 : decode cX5_init 108 = .ok (.aload_n 0, 1) := by decide +kernel
theorem dX5_init_109 : decode cX5_init 109 = .ok (.getfield 12, 3) := by decide +kernel
theorem dX5_init_112 : decode cX5_init 112 = .ok (.ldc 55, 2) := by decide +kernel
theorem dX5_init_114 : decode cX5_init 114 = .ok (.iload_n 1, 1) := by decide +kernel
theorem dX5_init_115 : decode cX5_init 115 = .ok (.invokevirtual 63, 3) := by decide +kernel
theorem dX5_init_118 : decode cX5_init 118 = .ok (.invokevirtual 67, 3) := by decide +kernel
theorem dX5_init_121 : decode cX5_init 121 = .ok (.iinc 1 1, 3) := by decide +kernel
theorem dX5_init_124 : decode cX5_init 124 = .ok (.goto (-25), 3) := by decide +kernel
theorem dX5_init_127 : decode cX5_init 127 = .ok (.aload_n 0, 1) := by decide +kernel
theorem dX5_init_128 : decode cX5_init 128 = .ok (.getfield 12, 3) := by decide +kernel
theorem dX5_init_131 : decode cX5_init 131 = .ok (.aload_n 0, 1) := by decide +kernel
theorem dX5_init_132 : decode cX5_init 132 = .ok (.getfield 19, 3) := by decide +kernel
theorem dX5_init_135 : decode cX5_init 135 = .ok (.invokevirtual 71, 3) := by decide +kernel
theorem dX5_init_138 : decode cX5_init 138 = .ok (.pop, 1) := by decide +kernel
theorem dX5_init_139 : decode cX5_init 139 = .ok (.aload_n 0, 1) := by decide +kernel
theorem dX5_init_140 : decode cX5_init 140 = .ok (.getfield 12, 3) := by decide +kernel
theorem dX5_init_143 : decode cX5_init 143 = .ok (.invokevirtual 75, 3) := by decide +kernel
theorem dX5_init_146 : decode cX5_init 146 = .ok (.return_, 1) := by decide +kernel
set_option maxRecDepth 20000 in
theorem ggX5_write_X5_isIn : GoodIn wsX5_write wsX5_isIn := goodIn_r _ [5] (by decide +kernel) (by decide +kernel)
set_option maxRecDepth 20000 in
theorem gX5_write_X5_isIn : GoodIn wsX5_write (va_wsS RX5 78 yX5_isIn wsX5_isIn) := goodIn_app (goodIn_of _ (by decide +kernel)) ggX5_write_X5_isIn
set_option maxRecDepth 20000 in
theorem ggX5_write_X4_append : GoodIn wsX5_write wsX4_append := goodIn_r _ [10, 11, 12, 21, 22, 23] (by decide +kernel) (by decide +kernel)
set_option maxRecDepth 20000 in
theorem gX5_write_X4_append : GoodIn wsX5_write (wsV RX5 67 RX4 yX4_append wsX4_append) := goodIn_app (goodIn_of _ (by decide +kernel)) ggX5_write_X4_append
theorem dX5_write_0 : decode cX5_write 0 = .ok (.iload_n 1, 1) := by decide +kernel
theorem dX5_write_1 : decode cX5_write 1 = .ok (.bipush 32, 2) := by decide +kernel
theorem dX5_write_3 : decode cX5_write 3 = .ok (.bipush 126, 2) := by decide +kernel
theorem dX5_write_5 : decode cX5_write 5 = .ok (.invokestatic 78, 3) := by decide +kernel
theorem dX5_write_8 : decode cX5_write 8 = .ok (.ifCond .ne 5, 3) := by decide +kernel
theorem dX5_write_11 : decode cX5_write 11 = .ok (.iconst (-1), 1) := by decide +kernel
theorem dX5_write_12 : decode cX5_write 12 = .ok (.ireturn, 1) := by decide +kernel
theorem dX5_write_13 : decode cX5_write 13 = .ok (.aload_n 0, 1) := by decide +kernel
theorem dX5_write_14 : decode cX5_write 14 = .ok (.getfield 12, 3) := by decide +kernel
theorem dX5_write_17 : decode cX5_write 17 = .ok (.getfield 82, 3) := by decide +kernel
theorem dX5_write_20 : decode cX5_write 20 = .ok (.sipush 200, 3) := by decide +kernel
theorem dX5_write_23 : decode cX5_write 23 = .ok (.if_icmp .lt 6, 3) := by decide +kernel
theorem dX5_write_26 : decode cX5_write 26 = .ok (.bipush (-3), 2) := by decide +kernel
theorem dX5_write_28 : decode cX5_write 28 = .ok (.ireturn, 1) := by decide +kernel
theorem dX5_write_29 : decode cX5_write 29 = .ok (.aload_n 0, 1) := by decide +kernel
theorem dX5_write_30 : decode cX5_write 30 = .ok (.getfield 12, 3) := by decide +kernel
theorem dX5_write_33 : decode cX5_write 33 = .ok (.iload_n 1, 1) := by decide +kernel
theorem dX5_write_34 : decode cX5_write 34 = .ok (.i2c, 1) := by decide +kernel
theorem dX5_write_35 : decode cX5_write 35 = .ok (.invokevirtual 67, 3) := by decide +kernel
theorem dX5_write_38 : decode cX5_write 38 = .ok (.aload_n 0, 1) := by decide +kernel
theorem dX5_write_39 : decode cX5_write 39 = .ok (.getfield 12, 3) := by decide +kernel
theorem dX5_write_42 : decode cX5_write 42 = .ok (.getfield 82, 3) := by decide +kernel
theorem dX5_write_45 : decode cX5_write 45 = .ok (.ireturn, 1) := by decide +kernel
set_option maxRecDepth 20000 in
theorem ggX5_wipe_X4_clear : GoodIn wsX5_wipe wsX4_clear := goodIn_r _ [6, 7, 16, 17, 18] (by decide +kernel) (by decide +kernel)
set_option maxRecDepth 20000 in
theorem gX5_wipe_X4_clear : GoodIn wsX5_wipe (wsV RX5 75 RX4 yX4_clear wsX4_clear) := goodIn_app (goodIn_of _ (by decide +kernel)) ggX5_wipe_X4_clear
theorem dX5_wipe_0 : decode cX5_wipe 0 = .ok (.aload_n 0, 1) := by decide +kernel
theorem dX5_wipe_1 : decode cX5_wipe 1 = .ok (.getfield 12, 3) := by decide +kernel
theorem dX5_wipe_4 : decode cX5_wipe 4 = .ok (.getfield 82, 3) := by decide +kernel
theorem dX5_wipe_7 : decode cX5_wipe 7 = .ok (.istore_n 1, 1) := by decide +kernel
theorem dX5_wipe_8 : decode cX5_wipe 8 = .ok (.aload_n 0, 1) := by decide +kernel
theorem dX5_wipe_9 : decode cX5_wipe 9 = .ok (.getfield 12, 3) := by decide +kernel
theorem dX5_wipe_12 : decode cX5_wipe 12 = .ok (.invokevirtual 75, 3) := by decide +kernel
theorem dX5_wipe_15 : decode cX5_wipe 15 = .ok (.iload_n 1, 1) := by decide +kernel
theorem dX5_wipe_16 : decode cX5_wipe 16 = .ok (.ireturn, 1) := by decide +kernel
set_option maxRecDepth 20000 in
theorem ggX5_fault_X4_readInto : GoodIn wsX5_fault wsX4_readInto := goodIn_r _ [7, 8, 9, 10, 11, 12, 13, 14, 15, 16, 17, 18, 19, 20, 21, 6, 22, 23, 24, 25, 26, 27, 28, 29, 30, 31, 32, 33, 34, 35, 36, 37, 38, 39, 40, 41, 42, 43, 44, 45, 46, 47, 48, 49, 50, 51, 52, 53, 54, 55, 56, 57, 58, 59, 60, 61, 62, 63, 64, 65, 66, 67, 68, 69, 70, 71, 72, 73, 74, 75, 76, 77, 78, 79, 88, 89, 90, 91, 92, 93, 94, 95, 96, 97, 98, 99] (by decide +kernel) (by decide +kernel)
set_option maxRecDepth 20000 in
theorem gX5_fault_X4_readInto : GoodIn wsX5_fault (wsV RX5 71 RX4 yX4_readInto wsX4_readInto) := goodIn_app (goodIn_of _ (by decide +kernel)) ggX5_fault_X4_readInto
theorem dX5_fault_0 : decode cX5_fault 0 = .ok (.aload_n 0, 1) := by decide +kernel
theorem dX5_fault_1 : decode cX5_fault 1 = .ok (.getfield 12, 3) := by decide +kernel
theorem dX5_fault_4 : decode cX5_fault 4 = .ok (.aload_n 0, 1) := by decide +kernel
theorem dX5_fault_5 : decode cX5_fault 5 = .ok (.getfield 23, 3) := by decide +kernel
theorem dX5_fault_8 : decode cX5_fault 8 = .ok (.invokevirtual 71, 3) := by decide +kernel
theorem dX5_fault_11 : decode cX5_fault 11 = .ok (.ireturn, 1) := by decide +kernel
set_option maxRecDepth 20000 in
theorem ggX5_lay_X4_readInto : GoodIn wsX5_lay wsX4_readInto := goodIn_r _ [11, 12, 13, 14, 15, 16, 17, 18, 19, 20, 21, 22, 23, 24, 25, 10, 26, 27, 28, 29, 30, 31, 32, 33, 34, 35, 36, 37, 38, 39, 40, 41, 42, 43, 44, 45, 46, 47, 48, 49, 50, 51, 52, 53, 54, 55, 56, 57, 58, 59, 60, 61, 62, 63, 64, 65, 66, 67, 68, 69, 70, 71, 72, 73, 74, 75, 76, 77, 78, 79, 80, 81, 82, 83, 121, 122, 123, 112, 113, 114, 115, 116, 117, 118, 119, 120] (by decide +kernel) (by decide +kernel)
set_option maxRecDepth 20000 in
theorem gX5_lay_X4_readInto : GoodIn wsX5_lay (wsV RX5 71 RX4 yX4_readInto wsX4_readInto) := goodIn_app (goodIn_of _ (by decide +kernel)) ggX5_lay_X4_readInto
set_option maxRecDepth 20000 in
theorem ggX5_lay_X0_copyFrom : GoodIn wsX5_lay wsX0_copyFrom := goodIn_r _ [87, 55, 88, 89, 90, 91, 56, 57, 58, 69, 19, 20, 21, 22, 112, 113, 114, 115, 116, 117, 118, 119, 120] (by decide +kernel) (by decide +kernel)
set_option maxRecDepth 20000 in
theorem gX5_lay_X0_copyFrom : GoodIn wsX5_lay (wsV RX5 91 RX0 yX0_copyFrom wsX0_copyFrom) := goodIn_app (goodIn_of _ (by decide +kernel)) ggX5_lay_X0_copyFrom
set_option maxRecDepth 20000 in
theorem ggX5_lay_X2_clear : GoodIn wsX5_lay wsX2_clear := goodIn_r _ [96, 97, 124, 125] (by decide +kernel) (by decide +kernel)
set_option maxRecDepth 20000 in
theorem gX5_lay_X2_clear : GoodIn wsX5_lay (wsV RX5 95 RX2 yX2_clear wsX2_clear) := goodIn_app (goodIn_of _ (by decide +kernel)) ggX5_lay_X2_clear
set_option maxRecDepth 20000 in
theorem ggX5_lay_X3_clear : GoodIn wsX5_lay wsX3_clear := goodIn_r _ [102, 103, 126, 127, 128] (by decide +kernel) (by decide +kernel)
set_option maxRecDepth 20000 in
theorem gX5_lay_X3_clear : GoodIn wsX5_lay (wsV RX5 96 RX3 yX3_clear wsX3_clear) := goodIn_app (goodIn_of _ (by decide +kernel)) ggX5_lay_X3_clear
theorem dX5_lay_0 : decode cX5_lay 0 = .ok (.aload_n 0, 1) := by decide +kernel
theorem dX5_lay_1 : decode cX5_lay 1 = .ok (.getfield 12, 3) := by decide +kernel
theorem dX5_lay_4 : decode cX5_lay 4 = .ok (.aload_n 0, 1) := by decide +kernel
theorem dX5_lay_5 : decode cX5_lay 5 = .ok (.getfield 23, 3) := by decide +kernel
theorem dX5_lay_8 : decode cX5_lay 8 = .ok (.invokevirtual 71, 3) := by decide +kernel
theorem dX5_lay_11 : decode cX5_lay 11 = .ok (.bipush (-4), 2) := by decide +kernel
theorem dX5_lay_13 : decode cX5_lay 13 = .ok (.if_icmp .ne 25, 3) := by decide +kernel
theorem dX5_lay_16 : decode cX5_lay 16 = .ok (.aload_n 0, 1) := by decide +kernel
theorem dX5_lay_17 : decode cX5_lay 17 = .ok (.getfield 23, 3) := by decide +kernel
theorem dX5_lay_20 : decode cX5_lay 20 = .ok (.getfield 85, 3) := by decide +kernel
theorem dX5_lay_23 : decode cX5_lay 23 = .ok (.iconst 1, 1) := by decide +kernel
theorem dX5_lay_24 : decode cX5_lay 24 = .ok (.if_icmp .lt 14, 3) := by decide +kernel
theorem dX5_lay_27 : decode cX5_lay 27 = .ok (.aload_n 0, 1) := by decide +kernel
theorem dX5_lay_28 : decode cX5_lay 28 = .ok (.getfield 23, 3) := by decide +kernel
theorem dX5_lay_31 : decode cX5_lay 31 = .ok (.getfield 88, 3) := by decide +kernel
theorem dX5_lay_34 : decode cX5_lay 34 = .ok (.iconst 1, 1) := by decide +kernel
theorem dX5_lay_35 : decode cX5_lay 35 = .ok (.if_icmp .ge 6, 3) := by decide +kernel
theorem dX5_lay_38 : decode cX5_lay 38 = .ok (.bipush (-2), 2) := by decide +kernel
theorem dX5_lay_40 : decode cX5_lay 40 = .ok (.ireturn, 1) := by decide +kernel
theorem dX5_lay_41 : decode cX5_lay 41 = .ok (.aload_n 0, 1) := by decide +kernel
theorem dX5_lay_42 : decode cX5_lay 42 = .ok (.getfield 19, 3) := by decide +kernel
theorem dX5_lay_45 : decode cX5_lay 45 = .ok (.aload_n 0, 1) := by decide +kernel
theorem dX5_lay_46 : decode cX5_lay 46 = .ok (.getfield 23, 3) := by decide +kernel
theorem dX5_lay_49 : decode cX5_lay 49 = .ok (.invokevirtual 91, 3) := by decide +kernel
theorem dX5_lay_52 : decode cX5_lay 52 = .ok (.aload_n 0, 1) := by decide +kernel
theorem dX5_lay_53 : decode cX5_lay 53 = .ok (.getfield 31, 3) := by decide +kernel
theorem dX5_lay_56 : decode cX5_lay 56 = .ok (.invokevirtual 95, 3) := by decide +kernel
theorem dX5_lay_59 : decode cX5_lay 59 = .ok (.aload_n 0, 1) := by decide +kernel
theorem dX5_lay_60 : decode cX5_lay 60 = .ok (.getfield 35, 3) := by decide +kernel
theorem dX5_lay_63 : decode cX5_lay 63 = .ok (.invokevirtual 95, 3) := by decide +kernel
theorem dX5_lay_66 : decode cX5_lay 66 = .ok (.aload_n 0, 1) := by decide +kernel
theorem dX5_lay_67 : decode cX5_lay 67 = .ok (.getfield 41, 3) := by decide +kernel
theorem dX5_lay_70 : decode cX5_lay 70 = .ok (.invokevirtual 96, 3) := by decide +kernel
theorem dX5_lay_73 : decode cX5_lay 73 = .ok (.aload_n 0, 1) := by decide +kernel
theorem dX5_lay_74 : decode cX5_lay 74 = .ok (.getfield 19, 3) := by decide +kernel
theorem dX5_lay_77 : decode cX5_lay 77 = .ok (.getfield 85, 3) := by decide +kernel
theorem dX5_lay_80 : decode cX5_lay 80 = .ok (.ireturn, 1) := by decide +kernel
set_option maxRecDepth 20000 in
theorem ggX5_courtier_X0_isCourtier : GoodIn wsX5_courtier wsX0_isCourtier := goodIn_r _ [6, 7, 35, 36, 37, 38, 39, 40, 41, 42, 43] (by decide +kernel) (by decide +kernel)
set_option maxRecDepth 20000 in
theorem gX5_courtier_X0_isCourtier : GoodIn wsX5_courtier (wsV RX5 97 RX0 yX0_isCourtier wsX0_isCourtier) := goodIn_app (goodIn_of _ (by decide +kernel)) ggX5_courtier_X0_isCourtier
set_option maxRecDepth 20000 in
theorem ggX5_courtier_X5_of : GoodIn wsX5_courtier wsX5_of := goodIn_r _ [11] (by decide +kernel) (by decide +kernel)
set_option maxRecDepth 20000 in
theorem gX5_courtier_X5_of : GoodIn wsX5_courtier (va_wsS RX5 105 yX5_of wsX5_of) := goodIn_app (goodIn_of _ (by decide +kernel)) ggX5_courtier_X5_of
set_option maxRecDepth 20000 in
theorem ggX5_courtier_X0_newsHeld : GoodIn wsX5_courtier wsX0_newsHeld := goodIn_r _ [15, 16, 17, 9, 10, 11, 35, 36, 37, 38, 39, 40, 41, 42, 43] (by decide +kernel) (by decide +kernel)
set_option maxRecDepth 20000 in
theorem gX5_courtier_X0_newsHeld : GoodIn wsX5_courtier (wsV RX5 115 RX0 yX0_newsHeld wsX0_newsHeld) := goodIn_app (goodIn_of _ (by decide +kernel)) ggX5_courtier_X0_newsHeld
set_option maxRecDepth 20000 in
theorem ggX5_courtier_X0_newsDoubted : GoodIn wsX5_courtier wsX0_newsDoubted := goodIn_r _ [21, 16, 22, 23, 24, 5, 25, 26, 9, 10, 11, 35, 36, 37, 38, 39, 40, 41, 42, 43] (by decide +kernel) (by decide +kernel)
set_option maxRecDepth 20000 in
theorem gX5_courtier_X0_newsDoubted : GoodIn wsX5_courtier (wsV RX5 119 RX0 yX0_newsDoubted wsX0_newsDoubted) := goodIn_app (goodIn_of _ (by decide +kernel)) ggX5_courtier_X0_newsDoubted
theorem dX5_courtier_0 : decode cX5_courtier 0 = .ok (.aload_n 0, 1) := by decide +kernel
theorem dX5_courtier_1 : decode cX5_courtier 1 = .ok (.getfield 19, 3) := by decide +kernel
theorem dX5_courtier_4 : decode cX5_courtier 4 = .ok (.iload_n 1, 1) := by decide +kernel
theorem dX5_courtier_5 : decode cX5_courtier 5 = .ok (.invokevirtual 97, 3) := by decide +kernel
theorem dX5_courtier_8 : decode cX5_courtier 8 = .ok (.ifCond .ne 5, 3) := by decide +kernel
theorem dX5_courtier_11 : decode cX5_courtier 11 = .ok (.iconst (-1), 1) := by decide +kernel
theorem dX5_courtier_12 : decode cX5_courtier 12 = .ok (.ireturn, 1) := by decide +kernel
theorem dX5_courtier_13 : decode cX5_courtier 13 = .ok (.iload_n 2, 1) := by decide +kernel
theorem dX5_courtier_14 : decode cX5_courtier 14 = .ok (.tableswitch 88 0 4 #[34, 46, 58, 70, 79], 34) := by decide +kernel
theorem dX5_courtier_48 : decode cX5_courtier 48 = .ok (.aload_n 0, 1) := by decide +kernel
theorem dX5_courtier_49 : decode cX5_courtier 49 = .ok (.getfield 19, 3) := by decide +kernel
theorem dX5_courtier_52 : decode cX5_courtier 52 = .ok (.getfield 101, 3) := by decide +kernel
theorem dX5_courtier_55 : decode cX5_courtier 55 = .ok (.iload_n 1, 1) := by decide +kernel
theorem dX5_courtier_56 : decode cX5_courtier 56 = .ok (.invokestatic 105, 3) := by decide +kernel
theorem dX5_courtier_59 : decode cX5_courtier 59 = .ok (.ireturn, 1) := by decide +kernel
theorem dX5_courtier_60 : decode cX5_courtier 60 = .ok (.aload_n 0, 1) := by decide +kernel
theorem dX5_courtier_61 : decode cX5_courtier 61 = .ok (.getfield 19, 3) := by decide +kernel
theorem dX5_courtier_64 : decode cX5_courtier 64 = .ok (.getfield 109, 3) := by decide +kernel
theorem dX5_courtier_67 : decode cX5_courtier 67 = .ok (.iload_n 1, 1) := by decide +kernel
theorem dX5_courtier_68 : decode cX5_courtier 68 = .ok (.invokestatic 105, 3) := by decide +kernel
theorem dX5_courtier_71 : decode cX5_courtier 71 = .ok (.ireturn, 1) := by decide +kernel
theorem dX5_courtier_72 : decode cX5_courtier 72 = .ok (.aload_n 0, 1) := by decide +kernel
theorem dX5_courtier_73 : decode cX5_courtier 73 = .ok (.getfield 19, 3) := by decide +kernel
theorem dX5_courtier_76 : decode cX5_courtier 76 = .ok (.getfield 112, 3) := by decide +kernel
theorem dX5_courtier_79 : decode cX5_courtier 79 = .ok (.iload_n 1, 1) := by decide +kernel
theorem dX5_courtier_80 : decode cX5_courtier 80 = .ok (.invokestatic 105, 3) := by decide +kernel
theorem dX5_courtier_83 : decode cX5_courtier 83 = .ok (.ireturn, 1) := by decide +kernel
theorem dX5_courtier_84 : decode cX5_courtier 84 = .ok (.aload_n 0, 1) := by decide +kernel
theorem dX5_courtier_85 : decode cX5_courtier 85 = .ok (.getfield 19, 3) := by decide +kernel
theorem dX5_courtier_88 : decode cX5_courtier 88 = .ok (.iload_n 1, 1) := by decide +kernel
theorem dX5_courtier_89 : decode cX5_courtier 89 = .ok (.invokevirtual 115, 3) := by decide +kernel
theorem dX5_courtier_92 : decode cX5_courtier 92 = .ok (.ireturn, 1) := by decide +kernel
theorem dX5_courtier_93 : decode cX5_courtier 93 = .ok (.aload_n 0, 1) := by decide +kernel
theorem dX5_courtier_94 : decode cX5_courtier 94 = .ok (.getfield 19, 3) := by decide +kernel
theorem dX5_courtier_97 : decode cX5_courtier 97 = .ok (.iload_n 1, 1) := by decide +kernel
theorem dX5_courtier_98 : decode cX5_courtier 98 = .ok (.invokevirtual 119, 3) := by decide +kernel
theorem dX5_courtier_101 : decode cX5_courtier 101 = .ok (.ireturn, 1) := by decide +kernel
theorem dX5_courtier_102 : decode cX5_courtier 102 = .ok (.iconst (-1), 1) := by decide +kernel
theorem dX5_courtier_103 : decode cX5_courtier 103 = .ok (.ireturn, 1) := by decide +kernel
set_option maxRecDepth 20000 in
theorem ggX5_news_X0_isNews : GoodIn wsX5_news wsX0_isNews := goodIn_r _ [6, 7, 33, 34, 35, 36, 37, 38, 39, 40, 41] (by decide +kernel) (by decide +kernel)
set_option maxRecDepth 20000 in
theorem gX5_news_X0_isNews : GoodIn wsX5_news (wsV RX5 122 RX0 yX0_isNews wsX0_isNews) := goodIn_app (goodIn_of _ (by decide +kernel)) ggX5_news_X0_isNews
set_option maxRecDepth 20000 in
theorem ggX5_news_X5_isIn : GoodIn wsX5_news wsX5_isIn := goodIn_r _ [11] (by decide +kernel) (by decide +kernel)
set_option maxRecDepth 20000 in
theorem gX5_news_X5_isIn : GoodIn wsX5_news (va_wsS RX5 78 yX5_isIn wsX5_isIn) := goodIn_app (goodIn_of _ (by decide +kernel)) ggX5_news_X5_isIn
set_option maxRecDepth 20000 in
theorem ggX5_news_X5_of : GoodIn wsX5_news wsX5_of := goodIn_r _ [14] (by decide +kernel) (by decide +kernel)
set_option maxRecDepth 20000 in
theorem gX5_news_X5_of : GoodIn wsX5_news (va_wsS RX5 105 yX5_of wsX5_of) := goodIn_app (goodIn_of _ (by decide +kernel)) ggX5_news_X5_of
set_option maxRecDepth 20000 in
theorem ggX5_news_X0_doubters : GoodIn wsX5_news wsX0_doubters := goodIn_r _ [18, 19, 20, 21, 22, 5, 23, 24, 13, 10, 14, 33, 34, 35, 36, 37, 38, 39, 40, 41] (by decide +kernel) (by decide +kernel)
set_option maxRecDepth 20000 in
theorem gX5_news_X0_doubters : GoodIn wsX5_news (wsV RX5 128 RX0 yX0_doubters wsX0_doubters) := goodIn_app (goodIn_of _ (by decide +kernel)) ggX5_news_X0_doubters
theorem dX5_news_0 : decode cX5_news 0 = .ok (.aload_n 0, 1) := by decide +kernel
theorem dX5_news_1 : decode cX5_news 1 = .ok (.getfield 19, 3) := by decide +kernel
theorem dX5_news_4 : decode cX5_news 4 = .ok (.iload_n 1, 1) := by decide +kernel
theorem dX5_news_5 : decode cX5_news 5 = .ok (.invokevirtual 122, 3) := by decide +kernel
theorem dX5_news_8 : decode cX5_news 8 = .ok (.ifCond .eq 12, 3) := by decide +kernel
theorem dX5_news_11 : decode cX5_news 11 = .ok (.iload_n 2, 1) := by decide +kernel
theorem dX5_news_12 : decode cX5_news 12 = .ok (.iconst 0, 1) := by decide +kernel
theorem dX5_news_13 : decode cX5_news 13 = .ok (.iconst 1, 1) := by decide +kernel
theorem dX5_news_14 : decode cX5_news 14 = .ok (.invokestatic 78, 3) := by decide +kernel
theorem dX5_news_17 : decode cX5_news 17 = .ok (.ifCond .ne 5, 3) := by decide +kernel
theorem dX5_news_20 : decode cX5_news 20 = .ok (.iconst (-1), 1) := by decide +kernel
theorem dX5_news_21 : decode cX5_news 21 = .ok (.ireturn, 1) := by decide +kernel
theorem dX5_news_22 : decode cX5_news 22 = .ok (.iload_n 2, 1) := by decide +kernel
theorem dX5_news_23 : decode cX5_news 23 = .ok (.ifCond .ne 17, 3) := by decide +kernel
theorem dX5_news_26 : decode cX5_news 26 = .ok (.aload_n 0, 1) := by decide +kernel
theorem dX5_news_27 : decode cX5_news 27 = .ok (.getfield 19, 3) := by decide +kernel
theorem dX5_news_30 : decode cX5_news 30 = .ok (.getfield 125, 3) := by decide +kernel
theorem dX5_news_33 : decode cX5_news 33 = .ok (.iload_n 1, 1) := by decide +kernel
theorem dX5_news_34 : decode cX5_news 34 = .ok (.invokestatic 105, 3) := by decide +kernel
theorem dX5_news_37 : decode cX5_news 37 = .ok (.goto 11, 3) := by decide +kernel
theorem dX5_news_40 : decode cX5_news 40 = .ok (.aload_n 0, 1) := by decide +kernel
theorem dX5_news_41 : decode cX5_news 41 = .ok (.getfield 19, 3) := by decide +kernel
theorem dX5_news_44 : decode cX5_news 44 = .ok (.iload_n 1, 1) := by decide +kernel
theorem dX5_news_45 : decode cX5_news 45 = .ok (.invokevirtual 128, 3) := by decide +kernel
theorem dX5_news_48 : decode cX5_news 48 = .ok (.ireturn, 1) := by decide +kernel
set_option maxRecDepth 20000 in
theorem ggX5_belief_X0_isCourtier : GoodIn wsX5_belief wsX0_isCourtier := goodIn_r _ [6, 7, 29, 30, 31, 32, 33, 34, 35, 36, 37] (by decide +kernel) (by decide +kernel)
set_option maxRecDepth 20000 in
theorem gX5_belief_X0_isCourtier : GoodIn wsX5_belief (wsV RX5 97 RX0 yX0_isCourtier wsX0_isCourtier) := goodIn_app (goodIn_of _ (by decide +kernel)) ggX5_belief_X0_isCourtier
set_option maxRecDepth 20000 in
theorem ggX5_belief_X0_isNews : GoodIn wsX5_belief wsX0_isNews := goodIn_r _ [11, 12, 29, 30, 31, 32, 33, 34, 35, 36, 37] (by decide +kernel) (by decide +kernel)
set_option maxRecDepth 20000 in
theorem gX5_belief_X0_isNews : GoodIn wsX5_belief (wsV RX5 122 RX0 yX0_isNews wsX0_isNews) := goodIn_app (goodIn_of _ (by decide +kernel)) ggX5_belief_X0_isNews
set_option maxRecDepth 20000 in
theorem ggX5_belief_X0_believes : GoodIn wsX5_belief wsX0_believes := goodIn_r _ [16, 17, 18, 19, 20, 29, 30, 31, 32, 33, 34, 35, 36, 37] (by decide +kernel) (by decide +kernel)
set_option maxRecDepth 20000 in
theorem gX5_belief_X0_believes : GoodIn wsX5_belief (wsV RX5 131 RX0 yX0_believes wsX0_believes) := goodIn_app (goodIn_of _ (by decide +kernel)) ggX5_belief_X0_believes
theorem dX5_belief_0 : decode cX5_belief 0 = .ok (.aload_n 0, 1) := by decide +kernel
theorem dX5_belief_1 : decode cX5_belief 1 = .ok (.getfield 19, 3) := by decide +kernel
theorem dX5_belief_4 : decode cX5_belief 4 = .ok (.iload_n 1, 1) := by decide +kernel
theorem dX5_belief_5 : decode cX5_belief 5 = .ok (.invokevirtual 97, 3) := by decide +kernel
theorem dX5_belief_8 : decode cX5_belief 8 = .ok (.ifCond .eq 14, 3) := by decide +kernel
theorem dX5_belief_11 : decode cX5_belief 11 = .ok (.aload_n 0, 1) := by decide +kernel
theorem dX5_belief_12 : decode cX5_belief 12 = .ok (.getfield 19, 3) := by decide +kernel
theorem dX5_belief_15 : decode cX5_belief 15 = .ok (.iload_n 2, 1) := by decide +kernel
theorem dX5_belief_16 : decode cX5_belief 16 = .ok (.invokevirtual 122, 3) := by decide +kernel
theorem dX5_belief_19 : decode cX5_belief 19 = .ok (.ifCond .ne 5, 3) := by decide +kernel
theorem dX5_belief_22 : decode cX5_belief 22 = .ok (.iconst (-1), 1) := by decide +kernel
theorem dX5_belief_23 : decode cX5_belief 23 = .ok (.ireturn, 1) := by decide +kernel
theorem dX5_belief_24 : decode cX5_belief 24 = .ok (.aload_n 0, 1) := by decide +kernel
theorem dX5_belief_25 : decode cX5_belief 25 = .ok (.getfield 19, 3) := by decide +kernel
theorem dX5_belief_28 : decode cX5_belief 28 = .ok (.iload_n 1, 1) := by decide +kernel
theorem dX5_belief_29 : decode cX5_belief 29 = .ok (.iload_n 2, 1) := by decide +kernel
theorem dX5_belief_30 : decode cX5_belief 30 = .ok (.invokevirtual 131, 3) := by decide +kernel
theorem dX5_belief_33 : decode cX5_belief 33 = .ok (.ireturn, 1) := by decide +kernel
set_option maxRecDepth 20000 in
theorem ggX5_pass_X5_isIn : GoodIn wsX5_pass wsX5_isIn := goodIn_r _ [6] (by decide +kernel) (by decide +kernel)
set_option maxRecDepth 20000 in
theorem gX5_pass_X5_isIn : GoodIn wsX5_pass (va_wsS RX5 78 yX5_isIn wsX5_isIn) := goodIn_app (goodIn_of _ (by decide +kernel)) ggX5_pass_X5_isIn
set_option maxRecDepth 20000 in
theorem ggX5_pass_X2_push : GoodIn wsX5_pass wsX2_push := goodIn_r _ [11, 12, 13, 14, 15, 16, 10, 17, 18, 19, 20, 21, 22, 23, 24, 25, 26, 27, 28, 29, 30, 31, 32, 33, 34, 35, 36, 37, 38, 39, 123, 124, 114, 115, 116, 117, 118, 119, 120, 121, 122] (by decide +kernel) (by decide +kernel)
set_option maxRecDepth 20000 in
theorem gX5_pass_X2_push : GoodIn wsX5_pass (wsV RX5 138 RX2 yX2_push wsX2_push) := goodIn_app (goodIn_of _ (by decide +kernel)) ggX5_pass_X2_push
set_option maxRecDepth 20000 in
theorem ggX5_pass_X0_live : GoodIn wsX5_pass wsX0_live := goodIn_r _ [43, 38, 39, 44, 45, 46, 25, 47, 48, 49, 50, 51, 35, 52, 5, 53, 54, 55, 56, 57, 37, 58, 59, 60, 61, 36, 62, 63, 64, 65, 33, 66, 67, 68, 69, 70, 71, 34, 72, 73, 74, 75, 76, 77, 78, 79, 80, 81, 82, 83, 84, 85, 86, 87, 88, 89, 32, 27, 90, 91, 92, 93, 94, 95, 96, 97, 98, 99, 100, 101, 114, 115, 116, 117, 118, 119, 120, 121, 122] (by decide +kernel) (by decide +kernel)
set_option maxRecDepth 20000 in
theorem gX5_pass_X0_live : GoodIn wsX5_pass (wsV RX5 141 RX0 yX0_live wsX0_live) := goodIn_app (goodIn_of _ (by decide +kernel)) ggX5_pass_X0_live
set_option maxRecDepth 20000 in
theorem ggX5_pass_X0_knownInAll : GoodIn wsX5_pass wsX0_knownInAll := goodIn_r _ [105, 38, 48, 49, 50, 25, 51, 35, 52, 5, 53, 114, 115, 116, 117, 118, 119, 120, 121, 122] (by decide +kernel) (by decide +kernel)
set_option maxRecDepth 20000 in
theorem gX5_pass_X0_knownInAll : GoodIn wsX5_pass (wsV RX5 144 RX0 yX0_knownInAll wsX0_knownInAll) := goodIn_app (goodIn_of _ (by decide +kernel)) ggX5_pass_X0_knownInAll
theorem dX5_pass_0 : decode cX5_pass 0 = .ok (.iload_n 1, 1) := by decide +kernel
theorem dX5_pass_1 : decode cX5_pass 1 = .ok (.iconst 1, 1) := by decide +kernel
theorem dX5_pass_2 : decode cX5_pass 2 = .ok (.bipush 24, 2) := by decide +kernel
theorem dX5_pass_4 : decode cX5_pass 4 = .ok (.invokestatic 78, 3) := by decide +kernel
theorem dX5_pass_7 : decode cX5_pass 7 = .ok (.ifCond .ne 5, 3) := by decide +kernel
theorem dX5_pass_10 : decode cX5_pass 10 = .ok (.iconst (-1), 1) := by decide +kernel
theorem dX5_pass_11 : decode cX5_pass 11 = .ok (.ireturn, 1) := by decide +kernel
theorem dX5_pass_12 : decode cX5_pass 12 = .ok (.aload_n 0, 1) := by decide +kernel
theorem dX5_pass_13 : decode cX5_pass 13 = .ok (.getfield 19, 3) := by decide +kernel
theorem dX5_pass_16 : decode cX5_pass 16 = .ok (.getfield 135, 3) := by decide +kernel
theorem dX5_pass_19 : decode cX5_pass 19 = .ok (.iload_n 1, 1) := by decide +kernel
theorem dX5_pass_20 : decode cX5_pass 20 = .ok (.iadd, 1) := by decide +kernel
theorem dX5_pass_21 : decode cX5_pass 21 = .ok (.sipush 999, 3) := by decide +kernel
theorem dX5_pass_24 : decode cX5_pass 24 = .ok (.if_icmp .le 6, 3) := by decide +kernel
theorem dX5_pass_27 : decode cX5_pass 27 = .ok (.bipush (-2), 2) := by decide +kernel
theorem dX5_pass_29 : decode cX5_pass 29 = .ok (.ireturn, 1) := by decide +kernel
theorem dX5_pass_30 : decode cX5_pass 30 = .ok (.aload_n 0, 1) := by decide +kernel
theorem dX5_pass_31 : decode cX5_pass 31 = .ok (.getfield 31, 3) := by decide +kernel
theorem dX5_pass_34 : decode cX5_pass 34 = .ok (.aload_n 0, 1) := by decide +kernel
theorem dX5_pass_35 : decode cX5_pass 35 = .ok (.getfield 19, 3) := by decide +kernel
theorem dX5_pass_38 : decode cX5_pass 38 = .ok (.invokevirtual 138, 3) := by decide +kernel
theorem dX5_pass_41 : decode cX5_pass 41 = .ok (.iconst 0, 1) := by decide +kernel
theorem dX5_pass_42 : decode cX5_pass 42 = .ok (.istore_n 2, 1) := by decide +kernel
theorem dX5_pass_43 : decode cX5_pass 43 = .ok (.iload_n 2, 1) := by decide +kernel
theorem dX5_pass_44 : decode cX5_pass 44 = .ok (.iload_n 1, 1) := by decide +kernel
theorem dX5_pass_45 : decode cX5_pass 45 = .ok (.if_icmp .ge 16, 3) := by decide +kernel
theorem dX5_pass_48 : decode cX5_pass 48 = .ok (.aload_n 0, 1) := by decide +kernel
theorem dX5_pass_49 : decode cX5_pass 49 = .ok (.getfield 19, 3) := by decide +kernel
theorem dX5_pass_52 : decode cX5_pass 52 = .ok (.invokevirtual 141, 3) := by decide +kernel
theorem dX5_pass_55 : decode cX5_pass 55 = .ok (.iinc 2 1, 3) := by decide +kernel
theorem dX5_pass_58 : decode cX5_pass 58 = .ok (.goto (-15), 3) := by decide +kernel
theorem dX5_pass_61 : decode cX5_pass 61 = .ok (.aload_n 0, 1) := by decide +kernel
theorem dX5_pass_62 : decode cX5_pass 62 = .ok (.getfield 19, 3) := by decide +kernel
theorem dX5_pass_65 : decode cX5_pass 65 = .ok (.invokevirtual 144, 3) := by decide +kernel
theorem dX5_pass_68 : decode cX5_pass 68 = .ok (.ireturn, 1) := by decide +kernel
set_option maxRecDepth 20000 in
theorem ggX5_prove_X0_isCourtier : GoodIn wsX5_prove wsX0_isCourtier := goodIn_r _ [7, 8, 78, 79, 80, 81, 82, 83, 84, 85, 86] (by decide +kernel) (by decide +kernel)
set_option maxRecDepth 20000 in
theorem gX5_prove_X0_isCourtier : GoodIn wsX5_prove (wsV RX5 97 RX0 yX0_isCourtier wsX0_isCourtier) := goodIn_app (goodIn_of _ (by decide +kernel)) ggX5_prove_X0_isCourtier
set_option maxRecDepth 20000 in
theorem ggX5_prove_X0_isNews : GoodIn wsX5_prove wsX0_isNews := goodIn_r _ [12, 13, 78, 79, 80, 81, 82, 83, 84, 85, 86] (by decide +kernel) (by decide +kernel)
set_option maxRecDepth 20000 in
theorem gX5_prove_X0_isNews : GoodIn wsX5_prove (wsV RX5 122 RX0 yX0_isNews wsX0_isNews) := goodIn_app (goodIn_of _ (by decide +kernel)) ggX5_prove_X0_isNews
set_option maxRecDepth 20000 in
theorem ggX5_prove_X5_isIn : GoodIn wsX5_prove wsX5_isIn := goodIn_r _ [17] (by decide +kernel) (by decide +kernel)
set_option maxRecDepth 20000 in
theorem gX5_prove_X5_isIn : GoodIn wsX5_prove (va_wsS RX5 78 yX5_isIn wsX5_isIn) := goodIn_app (goodIn_of _ (by decide +kernel)) ggX5_prove_X5_isIn
set_option maxRecDepth 20000 in
theorem ggX5_prove_X0_believes : GoodIn wsX5_prove wsX0_believes := goodIn_r _ [21, 22, 23, 16, 24, 78, 79, 80, 81, 82, 83, 84, 85, 86] (by decide +kernel) (by decide +kernel)
set_option maxRecDepth 20000 in
theorem gX5_prove_X0_believes : GoodIn wsX5_prove (wsV RX5 131 RX0 yX0_believes wsX0_believes) := goodIn_app (goodIn_of _ (by decide +kernel)) ggX5_prove_X0_believes
set_option maxRecDepth 20000 in
theorem ggX5_prove_X5_cutBelief : GoodIn wsX5_prove wsX5_cutBelief := goodIn_r _ [27, 28, 29, 30, 31, 32, 33, 34] (by decide +kernel) (by decide +kernel)
set_option maxRecDepth 20000 in
theorem gX5_prove_X5_cutBelief : GoodIn wsX5_prove (va_wsS RX5 147 yX5_cutBelief wsX5_cutBelief) := goodIn_app (goodIn_of _ (by decide +kernel)) ggX5_prove_X5_cutBelief
set_option maxRecDepth 20000 in
theorem ggX5_prove_X2_push : GoodIn wsX5_prove wsX2_push := goodIn_r _ [39, 40, 41, 42, 43, 44, 38, 45, 46, 47, 48, 49, 50, 51, 52, 6, 53, 54, 55, 56, 57, 58, 59, 60, 61, 62, 22, 8, 13, 63, 87, 88, 78, 79, 80, 81, 82, 83, 84, 85, 86] (by decide +kernel) (by decide +kernel)
set_option maxRecDepth 20000 in
theorem gX5_prove_X2_push : GoodIn wsX5_prove (wsV RX5 138 RX2 yX2_push wsX2_push) := goodIn_app (goodIn_of _ (by decide +kernel)) ggX5_prove_X2_push
set_option maxRecDepth 20000 in
theorem ggX5_prove_X0_setBelief : GoodIn wsX5_prove wsX0_setBelief := goodIn_r _ [67, 22, 68, 16, 69, 78, 79, 80, 81, 82, 83, 84, 85, 86] (by decide +kernel) (by decide +kernel)
set_option maxRecDepth 20000 in
theorem gX5_prove_X0_setBelief : GoodIn wsX5_prove (wsV RX5 150 RX0 yX0_setBelief wsX0_setBelief) := goodIn_app (goodIn_of _ (by decide +kernel)) ggX5_prove_X0_setBelief
theorem dX5_prove_0 : decode cX5_prove 0 = .ok (.aload_n 0, 1) := by decide +kernel
theorem dX5_prove_1 : decode cX5_prove 1 = .ok (.getfield 19, 3) := by decide +kernel
theorem dX5_prove_4 : decode cX5_prove 4 = .ok (.iload_n 1, 1) := by decide +kernel
theorem dX5_prove_5 : decode cX5_prove 5 = .ok (.invokevirtual 97, 3) := by decide +kernel
theorem dX5_prove_8 : decode cX5_prove 8 = .ok (.ifCond .eq 25, 3) := by decide +kernel
theorem dX5_prove_11 : decode cX5_prove 11 = .ok (.aload_n 0, 1) := by decide +kernel
theorem dX5_prove_12 : decode cX5_prove 12 = .ok (.getfield 19, 3) := by decide +kernel
theorem dX5_prove_15 : decode cX5_prove 15 = .ok (.iload_n 2, 1) := by decide +kernel
theorem dX5_prove_16 : decode cX5_prove 16 = .ok (.invokevirtual 122, 3) := by decide +kernel
theorem dX5_prove_19 : decode cX5_prove 19 = .ok (.ifCond .eq 14, 3) := by decide +kernel
theorem dX5_prove_22 : decode cX5_prove 22 = .ok (.iload_n 3, 1) := by decide +kernel
theorem dX5_prove_23 : decode cX5_prove 23 = .ok (.bipush (-9), 2) := by decide +kernel
theorem dX5_prove_25 : decode cX5_prove 25 = .ok (.bipush 9, 2) := by decide +kernel
theorem dX5_prove_27 : decode cX5_prove 27 = .ok (.invokestatic 78, 3) := by decide +kernel
theorem dX5_prove_30 : decode cX5_prove 30 = .ok (.ifCond .ne 5, 3) := by decide +kernel
theorem dX5_prove_33 : decode cX5_prove 33 = .ok (.iconst (-1), 1) := by decide +kernel
theorem dX5_prove_34 : decode cX5_prove 34 = .ok (.ireturn, 1) := by decide +kernel
theorem dX5_prove_35 : decode cX5_prove 35 = .ok (.aload_n 0, 1) := by decide +kernel
theorem dX5_prove_36 : decode cX5_prove 36 = .ok (.getfield 19, 3) := by decide +kernel
theorem dX5_prove_39 : decode cX5_prove 39 = .ok (.iload_n 1, 1) := by decide +kernel
theorem dX5_prove_40 : decode cX5_prove 40 = .ok (.iload_n 2, 1) := by decide +kernel
theorem dX5_prove_41 : decode cX5_prove 41 = .ok (.invokevirtual 131, 3) := by decide +kernel
theorem dX5_prove_44 : decode cX5_prove 44 = .ok (.iload_n 3, 1) := by decide +kernel
theorem dX5_prove_45 : decode cX5_prove 45 = .ok (.iadd, 1) := by decide +kernel
theorem dX5_prove_46 : decode cX5_prove 46 = .ok (.invokestatic 147, 3) := by decide +kernel
theorem dX5_prove_49 : decode cX5_prove 49 = .ok (.istore 4, 2) := by decide +kernel
theorem dX5_prove_51 : decode cX5_prove 51 = .ok (.iload 4, 2) := by decide +kernel
theorem dX5_prove_53 : decode cX5_prove 53 = .ok (.aload_n 0, 1) := by decide +kernel
theorem dX5_prove_54 : decode cX5_prove 54 = .ok (.getfield 19, 3) := by decide +kernel
theorem dX5_prove_57 : decode cX5_prove 57 = .ok (.iload_n 1, 1) := by decide +kernel
theorem dX5_prove_58 : decode cX5_prove 58 = .ok (.iload_n 2, 1) := by decide +kernel
theorem dX5_prove_59 : decode cX5_prove 59 = .ok (.invokevirtual 131, 3) := by decide +kernel
theorem dX5_prove_62 : decode cX5_prove 62 = .ok (.if_icmp .ne 6, 3) := by decide +kernel
theorem dX5_prove_65 : decode cX5_prove 65 = .ok (.bipush (-2), 2) := by decide +kernel
theorem dX5_prove_67 : decode cX5_prove 67 = .ok (.ireturn, 1) := by decide +kernel
theorem dX5_prove_68 : decode cX5_prove 68 = .ok (.aload_n 0, 1) := by decide +kernel
theorem dX5_prove_69 : decode cX5_prove 69 = .ok (.getfield 31, 3) := by decide +kernel
theorem dX5_prove_72 : decode cX5_prove 72 = .ok (.aload_n 0, 1) := by decide +kernel
theorem dX5_prove_73 : decode cX5_prove 73 = .ok (.getfield 19, 3) := by decide +kernel
theorem dX5_prove_76 : decode cX5_prove 76 = .ok (.invokevirtual 138, 3) := by decide +kernel
theorem dX5_prove_79 : decode cX5_prove 79 = .ok (.aload_n 0, 1) := by decide +kernel
theorem dX5_prove_80 : decode cX5_prove 80 = .ok (.getfield 19, 3) := by decide +kernel
theorem dX5_prove_83 : decode cX5_prove 83 = .ok (.iload_n 1, 1) := by decide +kernel
theorem dX5_prove_84 : decode cX5_prove 84 = .ok (.iload_n 2, 1) := by decide +kernel
theorem dX5_prove_85 : decode cX5_prove 85 = .ok (.iload 4, 2) := by decide +kernel
theorem dX5_prove_87 : decode cX5_prove 87 = .ok (.invokevirtual 150, 3) := by decide +kernel
theorem dX5_prove_90 : decode cX5_prove 90 = .ok (.iload 4, 2) := by decide +kernel
theorem dX5_prove_92 : decode cX5_prove 92 = .ok (.ireturn, 1) := by decide +kernel
set_option maxRecDepth 20000 in
theorem ggX5_hand_X0_isNews : GoodIn wsX5_hand wsX0_isNews := goodIn_r _ [7, 8, 59, 60, 61, 62, 63, 64, 65, 66, 67] (by decide +kernel) (by decide +kernel)
set_option maxRecDepth 20000 in
theorem gX5_hand_X0_isNews : GoodIn wsX5_hand (wsV RX5 122 RX0 yX0_isNews wsX0_isNews) := goodIn_app (goodIn_of _ (by decide +kernel)) ggX5_hand_X0_isNews
set_option maxRecDepth 20000 in
theorem ggX5_hand_X0_isCourtier : GoodIn wsX5_hand wsX0_isCourtier := goodIn_r _ [12, 13, 59, 60, 61, 62, 63, 64, 65, 66, 67] (by decide +kernel) (by decide +kernel)
set_option maxRecDepth 20000 in
theorem gX5_hand_X0_isCourtier : GoodIn wsX5_hand (wsV RX5 97 RX0 yX0_isCourtier wsX0_isCourtier) := goodIn_app (goodIn_of _ (by decide +kernel)) ggX5_hand_X0_isCourtier
set_option maxRecDepth 20000 in
theorem ggX5_hand_X5_of : GoodIn wsX5_hand wsX5_of := goodIn_r _ [17] (by decide +kernel) (by decide +kernel)
set_option maxRecDepth 20000 in
theorem gX5_hand_X5_of : GoodIn wsX5_hand (va_wsS RX5 105 yX5_of wsX5_of) := goodIn_app (goodIn_of _ (by decide +kernel)) ggX5_hand_X5_of
set_option maxRecDepth 20000 in
theorem ggX5_hand_X2_push : GoodIn wsX5_hand wsX2_push := goodIn_r _ [22, 23, 24, 25, 26, 27, 21, 28, 29, 30, 31, 32, 33, 34, 35, 6, 36, 37, 38, 39, 40, 41, 42, 43, 44, 45, 46, 13, 8, 47, 68, 69, 59, 60, 61, 62, 63, 64, 65, 66, 67] (by decide +kernel) (by decide +kernel)
set_option maxRecDepth 20000 in
theorem gX5_hand_X2_push : GoodIn wsX5_hand (wsV RX5 138 RX2 yX2_push wsX2_push) := goodIn_app (goodIn_of _ (by decide +kernel)) ggX5_hand_X2_push
set_option maxRecDepth 20000 in
theorem ggX5_hand_X5_put : GoodIn wsX5_hand wsX5_put := goodIn_r _ [50] (by decide +kernel) (by decide +kernel)
set_option maxRecDepth 20000 in
theorem gX5_hand_X5_put : GoodIn wsX5_hand (va_wsS RX5 154 yX5_put wsX5_put) := goodIn_app (goodIn_of _ (by decide +kernel)) ggX5_hand_X5_put
theorem dX5_hand_0 : decode cX5_hand 0 = .ok (.aload_n 0, 1) := by decide +kernel
theorem dX5_hand_1 : decode cX5_hand 1 = .ok (.getfield 19, 3) := by decide +kernel
theorem dX5_hand_4 : decode cX5_hand 4 = .ok (.iload_n 1, 1) := by decide +kernel
theorem dX5_hand_5 : decode cX5_hand 5 = .ok (.invokevirtual 122, 3) := by decide +kernel
theorem dX5_hand_8 : decode cX5_hand 8 = .ok (.ifCond .eq 14, 3) := by decide +kernel
theorem dX5_hand_11 : decode cX5_hand 11 = .ok (.aload_n 0, 1) := by decide +kernel
theorem dX5_hand_12 : decode cX5_hand 12 = .ok (.getfield 19, 3) := by decide +kernel
theorem dX5_hand_15 : decode cX5_hand 15 = .ok (.iload_n 2, 1) := by decide +kernel
theorem dX5_hand_16 : decode cX5_hand 16 = .ok (.invokevirtual 97, 3) := by decide +kernel
theorem dX5_hand_19 : decode cX5_hand 19 = .ok (.ifCond .ne 5, 3) := by decide +kernel
theorem dX5_hand_22 : decode cX5_hand 22 = .ok (.iconst (-1), 1) := by decide +kernel
theorem dX5_hand_23 : decode cX5_hand 23 = .ok (.ireturn, 1) := by decide +kernel
theorem dX5_hand_24 : decode cX5_hand 24 = .ok (.aload_n 0, 1) := by decide +kernel
theorem dX5_hand_25 : decode cX5_hand 25 = .ok (.getfield 19, 3) := by decide +kernel
theorem dX5_hand_28 : decode cX5_hand 28 = .ok (.getfield 125, 3) := by decide +kernel
theorem dX5_hand_31 : decode cX5_hand 31 = .ok (.iload_n 1, 1) := by decide +kernel
theorem dX5_hand_32 : decode cX5_hand 32 = .ok (.invokestatic 105, 3) := by decide +kernel
theorem dX5_hand_35 : decode cX5_hand 35 = .ok (.istore_n 3, 1) := by decide +kernel
theorem dX5_hand_36 : decode cX5_hand 36 = .ok (.iload_n 3, 1) := by decide +kernel
theorem dX5_hand_37 : decode cX5_hand 37 = .ok (.bipush 9, 2) := by decide +kernel
theorem dX5_hand_39 : decode cX5_hand 39 = .ok (.if_icmp .eq 8, 3) := by decide +kernel
theorem dX5_hand_42 : decode cX5_hand 42 = .ok (.iload_n 3, 1) := by decide +kernel
theorem dX5_hand_43 : decode cX5_hand 43 = .ok (.iload_n 2, 1) := by decide +kernel
theorem dX5_hand_44 : decode cX5_hand 44 = .ok (.if_icmp .ne 6, 3) := by decide +kernel
theorem dX5_hand_47 : decode cX5_hand 47 = .ok (.bipush (-2), 2) := by decide +kernel
theorem dX5_hand_49 : decode cX5_hand 49 = .ok (.ireturn, 1) := by decide +kernel
theorem dX5_hand_50 : decode cX5_hand 50 = .ok (.aload_n 0, 1) := by decide +kernel
theorem dX5_hand_51 : decode cX5_hand 51 = .ok (.getfield 31, 3) := by decide +kernel
theorem dX5_hand_54 : decode cX5_hand 54 = .ok (.aload_n 0, 1) := by decide +kernel
theorem dX5_hand_55 : decode cX5_hand 55 = .ok (.getfield 19, 3) := by decide +kernel
theorem dX5_hand_58 : decode cX5_hand 58 = .ok (.invokevirtual 138, 3) := by decide +kernel
theorem dX5_hand_61 : decode cX5_hand 61 = .ok (.aload_n 0, 1) := by decide +kernel
theorem dX5_hand_62 : decode cX5_hand 62 = .ok (.getfield 19, 3) := by decide +kernel
theorem dX5_hand_65 : decode cX5_hand 65 = .ok (.getfield 125, 3) := by decide +kernel
theorem dX5_hand_68 : decode cX5_hand 68 = .ok (.iload_n 1, 1) := by decide +kernel
theorem dX5_hand_69 : decode cX5_hand 69 = .ok (.iload_n 2, 1) := by decide +kernel
theorem dX5_hand_70 : decode cX5_hand 70 = .ok (.invokestatic 154, 3) := by decide +kernel
theorem dX5_hand_73 : decode cX5_hand 73 = .ok (.iload_n 3, 1) := by decide +kernel
theorem dX5_hand_74 : decode cX5_hand 74 = .ok (.ireturn, 1) := by decide +kernel
set_option maxRecDepth 20000 in
theorem ggX5_swap_X0_isCourtier : GoodIn wsX5_swap wsX0_isCourtier := goodIn_r _ [7, 8, 58, 59, 60, 61, 62, 63, 64, 65, 66] (by decide +kernel) (by decide +kernel)
set_option maxRecDepth 20000 in
theorem gX5_swap_X0_isCourtier : GoodIn wsX5_swap (wsV RX5 97 RX0 yX0_isCourtier wsX0_isCourtier) := goodIn_app (goodIn_of _ (by decide +kernel)) ggX5_swap_X0_isCourtier
set_option maxRecDepth 20000 in
theorem ggX5_swap_X2_push : GoodIn wsX5_swap wsX2_push := goodIn_r _ [13, 14, 15, 16, 17, 18, 12, 19, 20, 21, 22, 23, 24, 25, 26, 6, 27, 28, 29, 30, 31, 32, 33, 34, 35, 36, 37, 8, 38, 39, 67, 68, 58, 59, 60, 61, 62, 63, 64, 65, 66] (by decide +kernel) (by decide +kernel)
set_option maxRecDepth 20000 in
theorem gX5_swap_X2_push : GoodIn wsX5_swap (wsV RX5 138 RX2 yX2_push wsX2_push) := goodIn_app (goodIn_of _ (by decide +kernel)) ggX5_swap_X2_push
set_option maxRecDepth 20000 in
theorem ggX5_swap_X0_changePlaces : GoodIn wsX5_swap wsX0_changePlaces := goodIn_r _ [43, 34, 35, 44, 45, 46, 47, 48, 58, 59, 60, 61, 62, 63, 64, 65, 66] (by decide +kernel) (by decide +kernel)
set_option maxRecDepth 20000 in
theorem gX5_swap_X0_changePlaces : GoodIn wsX5_swap (wsV RX5 158 RX0 yX0_changePlaces wsX0_changePlaces) := goodIn_app (goodIn_of _ (by decide +kernel)) ggX5_swap_X0_changePlaces
set_option maxRecDepth 20000 in
theorem ggX5_swap_X5_of : GoodIn wsX5_swap wsX5_of := goodIn_r _ [46] (by decide +kernel) (by decide +kernel)
set_option maxRecDepth 20000 in
theorem gX5_swap_X5_of : GoodIn wsX5_swap (va_wsS RX5 105 yX5_of wsX5_of) := goodIn_app (goodIn_of _ (by decide +kernel)) ggX5_swap_X5_of
theorem dX5_swap_0 : decode cX5_swap 0 = .ok (.aload_n 0, 1) := by decide +kernel
theorem dX5_swap_1 : decode cX5_swap 1 = .ok (.getfield 19, 3) := by decide +kernel
theorem dX5_swap_4 : decode cX5_swap 4 = .ok (.iload_n 1, 1) := by decide +kernel
theorem dX5_swap_5 : decode cX5_swap 5 = .ok (.invokevirtual 97, 3) := by decide +kernel
theorem dX5_swap_8 : decode cX5_swap 8 = .ok (.ifCond .eq 19, 3) := by decide +kernel
theorem dX5_swap_11 : decode cX5_swap 11 = .ok (.aload_n 0, 1) := by decide +kernel
theorem dX5_swap_12 : decode cX5_swap 12 = .ok (.getfield 19, 3) := by decide +kernel
theorem dX5_swap_15 : decode cX5_swap 15 = .ok (.iload_n 2, 1) := by decide +kernel
theorem dX5_swap_16 : decode cX5_swap 16 = .ok (.invokevirtual 97, 3) := by decide +kernel
theorem dX5_swap_19 : decode cX5_swap 19 = .ok (.ifCond .eq 8, 3) := by decide +kernel
theorem dX5_swap_22 : decode cX5_swap 22 = .ok (.iload_n 1, 1) := by decide +kernel
theorem dX5_swap_23 : decode cX5_swap 23 = .ok (.iload_n 2, 1) := by decide +kernel
theorem dX5_swap_24 : decode cX5_swap 24 = .ok (.if_icmp .ne 5, 3) := by decide +kernel
theorem dX5_swap_27 : decode cX5_swap 27 = .ok (.iconst (-1), 1) := by decide +kernel
theorem dX5_swap_28 : decode cX5_swap 28 = .ok (.ireturn, 1) := by decide +kernel
theorem dX5_swap_29 : decode cX5_swap 29 = .ok (.aload_n 0, 1) := by decide +kernel
theorem dX5_swap_30 : decode cX5_swap 30 = .ok (.getfield 31, 3) := by decide +kernel
theorem dX5_swap_33 : decode cX5_swap 33 = .ok (.aload_n 0, 1) := by decide +kernel
theorem dX5_swap_34 : decode cX5_swap 34 = .ok (.getfield 19, 3) := by decide +kernel
theorem dX5_swap_37 : decode cX5_swap 37 = .ok (.invokevirtual 138, 3) := by decide +kernel
theorem dX5_swap_40 : decode cX5_swap 40 = .ok (.aload_n 0, 1) := by decide +kernel
theorem dX5_swap_41 : decode cX5_swap 41 = .ok (.getfield 19, 3) := by decide +kernel
theorem dX5_swap_44 : decode cX5_swap 44 = .ok (.iload_n 1, 1) := by decide +kernel
theorem dX5_swap_45 : decode cX5_swap 45 = .ok (.iload_n 2, 1) := by decide +kernel
theorem dX5_swap_46 : decode cX5_swap 46 = .ok (.invokevirtual 158, 3) := by decide +kernel
theorem dX5_swap_49 : decode cX5_swap 49 = .ok (.aload_n 0, 1) := by decide +kernel
theorem dX5_swap_50 : decode cX5_swap 50 = .ok (.getfield 19, 3) := by decide +kernel
theorem dX5_swap_53 : decode cX5_swap 53 = .ok (.getfield 112, 3) := by decide +kernel
theorem dX5_swap_56 : decode cX5_swap 56 = .ok (.iload_n 1, 1) := by decide +kernel
theorem dX5_swap_57 : decode cX5_swap 57 = .ok (.invokestatic 105, 3) := by decide +kernel
theorem dX5_swap_60 : decode cX5_swap 60 = .ok (.ireturn, 1) := by decide +kernel
set_option maxRecDepth 20000 in
theorem ggX5_undo_X2_pullInto : GoodIn wsX5_undo wsX2_pullInto := goodIn_r _ [7, 8, 9, 10, 11, 6, 12, 13, 14, 15, 16, 17, 18, 19, 20, 21, 22, 23, 24, 25, 26, 27, 28, 29, 30, 31, 40, 41, 42, 43, 44, 45, 46, 47, 48, 49, 50] (by decide +kernel) (by decide +kernel)
set_option maxRecDepth 20000 in
theorem gX5_undo_X2_pullInto : GoodIn wsX5_undo (wsV RX5 162 RX2 yX2_pullInto wsX2_pullInto) := goodIn_app (goodIn_of _ (by decide +kernel)) ggX5_undo_X2_pullInto
theorem dX5_undo_0 : decode cX5_undo 0 = .ok (.aload_n 0, 1) := by decide +kernel
theorem dX5_undo_1 : decode cX5_undo 1 = .ok (.getfield 31, 3) := by decide +kernel
theorem dX5_undo_4 : decode cX5_undo 4 = .ok (.aload_n 0, 1) := by decide +kernel
theorem dX5_undo_5 : decode cX5_undo 5 = .ok (.getfield 19, 3) := by decide +kernel
theorem dX5_undo_8 : decode cX5_undo 8 = .ok (.invokevirtual 162, 3) := by decide +kernel
theorem dX5_undo_11 : decode cX5_undo 11 = .ok (.ifCond .eq 13, 3) := by decide +kernel
theorem dX5_undo_14 : decode cX5_undo 14 = .ok (.aload_n 0, 1) := by decide +kernel
theorem dX5_undo_15 : decode cX5_undo 15 = .ok (.getfield 31, 3) := by decide +kernel
theorem dX5_undo_18 : decode cX5_undo 18 = .ok (.getfield 166, 3) := by decide +kernel
theorem dX5_undo_21 : decode cX5_undo 21 = .ok (.goto 5, 3) := by decide +kernel
theorem dX5_undo_24 : decode cX5_undo 24 = .ok (.bipush (-2), 2) := by decide +kernel
theorem dX5_undo_26 : decode cX5_undo 26 = .ok (.ireturn, 1) := by decide +kernel
set_option maxRecDepth 20000 in
theorem ggX5_behind_X5_isIn : GoodIn wsX5_behind wsX5_isIn := goodIn_r _ [6] (by decide +kernel) (by decide +kernel)
set_option maxRecDepth 20000 in
theorem gX5_behind_X5_isIn : GoodIn wsX5_behind (va_wsS RX5 78 yX5_isIn wsX5_isIn) := goodIn_app (goodIn_of _ (by decide +kernel)) ggX5_behind_X5_isIn
set_option maxRecDepth 20000 in
theorem ggX5_behind_X0_isNews : GoodIn wsX5_behind wsX0_isNews := goodIn_r _ [11, 12, 101, 102, 103, 104, 105, 106, 107, 108, 109] (by decide +kernel) (by decide +kernel)
set_option maxRecDepth 20000 in
theorem gX5_behind_X0_isNews : GoodIn wsX5_behind (wsV RX5 122 RX0 yX0_isNews wsX0_isNews) := goodIn_app (goodIn_of _ (by decide +kernel)) ggX5_behind_X0_isNews
set_option maxRecDepth 20000 in
theorem ggX5_behind_X0_isCourtier : GoodIn wsX5_behind wsX0_isCourtier := goodIn_r _ [16, 17, 101, 102, 103, 104, 105, 106, 107, 108, 109] (by decide +kernel) (by decide +kernel)
set_option maxRecDepth 20000 in
theorem gX5_behind_X0_isCourtier : GoodIn wsX5_behind (wsV RX5 97 RX0 yX0_isCourtier wsX0_isCourtier) := goodIn_app (goodIn_of _ (by decide +kernel)) ggX5_behind_X0_isCourtier
set_option maxRecDepth 20000 in
theorem ggX5_behind_X0_copyFrom : GoodIn wsX5_behind wsX0_copyFrom := goodIn_r _ [21, 22, 23, 24, 25, 26, 27, 28, 29, 30, 31, 17, 12, 32, 101, 102, 103, 104, 105, 106, 107, 108, 109] (by decide +kernel) (by decide +kernel)
set_option maxRecDepth 20000 in
theorem gX5_behind_X0_copyFrom : GoodIn wsX5_behind (wsV RX5 91 RX0 yX0_copyFrom wsX0_copyFrom) := goodIn_app (goodIn_of _ (by decide +kernel)) ggX5_behind_X0_copyFrom
set_option maxRecDepth 20000 in
theorem ggX5_behind_X0_liveFor : GoodIn wsX5_behind wsX0_liveFor := goodIn_r _ [36, 37, 38, 39, 10, 40, 30, 41, 5, 42, 43, 44, 45, 46, 17, 47, 48, 49, 50, 31, 51, 52, 53, 54, 28, 55, 56, 57, 58, 59, 60, 29, 61, 62, 63, 64, 65, 66, 67, 68, 69, 70, 71, 72, 73, 74, 75, 76, 77, 78, 27, 22, 79, 80, 81, 82, 83, 84, 85, 86, 87, 88, 89, 90, 101, 102, 103, 104, 105, 106, 107, 108, 109] (by decide +kernel) (by decide +kernel)
set_option maxRecDepth 20000 in
theorem gX5_behind_X0_liveFor : GoodIn wsX5_behind (wsV RX5 169 RX0 yX0_liveFor wsX0_liveFor) := goodIn_app (goodIn_of _ (by decide +kernel)) ggX5_behind_X0_liveFor
set_option maxRecDepth 20000 in
theorem ggX5_behind_X5_of : GoodIn wsX5_behind wsX5_of := goodIn_r _ [42] (by decide +kernel) (by decide +kernel)
set_option maxRecDepth 20000 in
theorem gX5_behind_X5_of : GoodIn wsX5_behind (va_wsS RX5 105 yX5_of wsX5_of) := goodIn_app (goodIn_of _ (by decide +kernel)) ggX5_behind_X5_of
set_option maxRecDepth 20000 in
theorem ggX5_behind_X0_believes : GoodIn wsX5_behind wsX0_believes := goodIn_r _ [50, 31, 41, 5, 42, 101, 102, 103, 104, 105, 106, 107, 108, 109] (by decide +kernel) (by decide +kernel)
set_option maxRecDepth 20000 in
theorem gX5_behind_X0_believes : GoodIn wsX5_behind (wsV RX5 131 RX0 yX0_believes wsX0_believes) := goodIn_app (goodIn_of _ (by decide +kernel)) ggX5_behind_X0_believes
theorem dX5_behind_0 : decode cX5_behind 0 = .ok (.iload_n 1, 1) := by decide +kernel
theorem dX5_behind_1 : decode cX5_behind 1 = .ok (.iconst 0, 1) := by decide +kernel
theorem dX5_behind_2 : decode cX5_behind 2 = .ok (.bipush 40, 2) := by decide +kernel
theorem dX5_behind_4 : decode cX5_behind 4 = .ok (.invokestatic 78, 3) := by decide +kernel
theorem dX5_behind_7 : decode cX5_behind 7 = .ok (.ifCond .eq 30, 3) := by decide +kernel
theorem dX5_behind_10 : decode cX5_behind 10 = .ok (.aload_n 0, 1) := by decide +kernel
theorem dX5_behind_11 : decode cX5_behind 11 = .ok (.getfield 19, 3) := by decide +kernel
theorem dX5_behind_14 : decode cX5_behind 14 = .ok (.iload_n 2, 1) := by decide +kernel
theorem dX5_behind_15 : decode cX5_behind 15 = .ok (.invokevirtual 122, 3) := by decide +kernel
theorem dX5_behind_18 : decode cX5_behind 18 = .ok (.ifCond .eq 19, 3) := by decide +kernel
theorem dX5_behind_21 : decode cX5_behind 21 = .ok (.iload_n 3, 1) := by decide +kernel
theorem dX5_behind_22 : decode cX5_behind 22 = .ok (.iconst (-1), 1) := by decide +kernel
theorem dX5_behind_23 : decode cX5_behind 23 = .ok (.if_icmp .eq 16, 3) := by decide +kernel
theorem dX5_behind_26 : decode cX5_behind 26 = .ok (.aload_n 0, 1) := by decide +kernel
theorem dX5_behind_27 : decode cX5_behind 27 = .ok (.getfield 19, 3) := by decide +kernel
theorem dX5_behind_30 : decode cX5_behind 30 = .ok (.iload_n 3, 1) := by decide +kernel
theorem dX5_behind_31 : decode cX5_behind 31 = .ok (.invokevirtual 97, 3) := by decide +kernel
theorem dX5_behind_34 : decode cX5_behind 34 = .ok (.ifCond .ne 5, 3) := by decide +kernel
theorem dX5_behind_37 : decode cX5_behind 37 = .ok (.iconst (-1), 1) := by decide +kernel
theorem dX5_behind_38 : decode cX5_behind 38 = .ok (.ireturn, 1) := by decide +kernel
theorem dX5_behind_39 : decode cX5_behind 39 = .ok (.aload_n 0, 1) := by decide +kernel
theorem dX5_behind_40 : decode cX5_behind 40 = .ok (.getfield 23, 3) := by decide +kernel
theorem dX5_behind_43 : decode cX5_behind 43 = .ok (.aload_n 0, 1) := by decide +kernel
theorem dX5_behind_44 : decode cX5_behind 44 = .ok (.getfield 19, 3) := by decide +kernel
theorem dX5_behind_47 : decode cX5_behind 47 = .ok (.invokevirtual 91, 3) := by decide +kernel
theorem dX5_behind_50 : decode cX5_behind 50 = .ok (.aload_n 0, 1) := by decide +kernel
theorem dX5_behind_51 : decode cX5_behind 51 = .ok (.getfield 23, 3) := by decide +kernel
theorem dX5_behind_54 : decode cX5_behind 54 = .ok (.iload_n 2, 1) := by decide +kernel
theorem dX5_behind_55 : decode cX5_behind 55 = .ok (.iload_n 1, 1) := by decide +kernel
theorem dX5_behind_56 : decode cX5_behind 56 = .ok (.invokevirtual 169, 3) := by decide +kernel
theorem dX5_behind_59 : decode cX5_behind 59 = .ok (.iload_n 3, 1) := by decide +kernel
theorem dX5_behind_60 : decode cX5_behind 60 = .ok (.iconst (-1), 1) := by decide +kernel
theorem dX5_behind_61 : decode cX5_behind 61 = .ok (.if_icmp .ne 17, 3) := by decide +kernel
theorem dX5_behind_64 : decode cX5_behind 64 = .ok (.aload_n 0, 1) := by decide +kernel
theorem dX5_behind_65 : decode cX5_behind 65 = .ok (.getfield 23, 3) := by decide +kernel
theorem dX5_behind_68 : decode cX5_behind 68 = .ok (.getfield 125, 3) := by decide +kernel
theorem dX5_behind_71 : decode cX5_behind 71 = .ok (.iload_n 2, 1) := by decide +kernel
theorem dX5_behind_72 : decode cX5_behind 72 = .ok (.invokestatic 105, 3) := by decide +kernel
theorem dX5_behind_75 : decode cX5_behind 75 = .ok (.goto 12, 3) := by decide +kernel
theorem dX5_behind_78 : decode cX5_behind 78 = .ok (.aload_n 0, 1) := by decide +kernel
theorem dX5_behind_79 : decode cX5_behind 79 = .ok (.getfield 23, 3) := by decide +kernel
theorem dX5_behind_82 : decode cX5_behind 82 = .ok (.iload_n 3, 1) := by decide +kernel
theorem dX5_behind_83 : decode cX5_behind 83 = .ok (.iload_n 2, 1) := by decide +kernel
theorem dX5_behind_84 : decode cX5_behind 84 = .ok (.invokevirtual 131, 3) := by decide +kernel
theorem dX5_behind_87 : decode cX5_behind 87 = .ok (.ireturn, 1) := by decide +kernel
set_option maxRecDepth 20000 in
theorem ggX5_comes_X0_isNews : GoodIn wsX5_comes wsX0_isNews := goodIn_r _ [7, 8, 96, 97, 98, 99, 100, 101, 102, 103, 104] (by decide +kernel) (by decide +kernel)
set_option maxRecDepth 20000 in
theorem gX5_comes_X0_isNews : GoodIn wsX5_comes (wsV RX5 122 RX0 yX0_isNews wsX0_isNews) := goodIn_app (goodIn_of _ (by decide +kernel)) ggX5_comes_X0_isNews
set_option maxRecDepth 20000 in
theorem ggX5_comes_X0_copyFrom : GoodIn wsX5_comes wsX0_copyFrom := goodIn_r _ [12, 13, 14, 15, 16, 17, 18, 19, 20, 21, 22, 23, 8, 24, 96, 97, 98, 99, 100, 101, 102, 103, 104] (by decide +kernel) (by decide +kernel)
set_option maxRecDepth 20000 in
theorem gX5_comes_X0_copyFrom : GoodIn wsX5_comes (wsV RX5 91 RX0 yX0_copyFrom wsX0_copyFrom) := goodIn_app (goodIn_of _ (by decide +kernel)) ggX5_comes_X0_copyFrom
set_option maxRecDepth 20000 in
theorem ggX5_comes_X0_untilKnown : GoodIn wsX5_comes wsX0_untilKnown := goodIn_r _ [28, 29, 30, 31, 6, 32, 21, 33, 34, 35, 36, 37, 38, 39, 40, 41, 42, 43, 23, 44, 45, 46, 47, 22, 48, 49, 50, 51, 19, 52, 53, 54, 55, 56, 57, 20, 58, 59, 60, 61, 62, 63, 64, 65, 66, 67, 68, 69, 70, 71, 72, 73, 74, 75, 18, 13, 76, 77, 78, 79, 80, 81, 82, 83, 84, 85, 86, 87, 96, 97, 98, 99, 100, 101, 102, 103, 104] (by decide +kernel) (by decide +kernel)
set_option maxRecDepth 20000 in
theorem gX5_comes_X0_untilKnown : GoodIn wsX5_comes (wsV RX5 172 RX0 yX0_untilKnown wsX0_untilKnown) := goodIn_app (goodIn_of _ (by decide +kernel)) ggX5_comes_X0_untilKnown
theorem dX5_comes_0 : decode cX5_comes 0 = .ok (.aload_n 0, 1) := by decide +kernel
theorem dX5_comes_1 : decode cX5_comes 1 = .ok (.getfield 19, 3) := by decide +kernel
theorem dX5_comes_4 : decode cX5_comes 4 = .ok (.iload_n 1, 1) := by decide +kernel
theorem dX5_comes_5 : decode cX5_comes 5 = .ok (.invokevirtual 122, 3) := by decide +kernel
theorem dX5_comes_8 : decode cX5_comes 8 = .ok (.ifCond .ne 5, 3) := by decide +kernel
theorem dX5_comes_11 : decode cX5_comes 11 = .ok (.iconst (-1), 1) := by decide +kernel
theorem dX5_comes_12 : decode cX5_comes 12 = .ok (.ireturn, 1) := by decide +kernel
theorem dX5_comes_13 : decode cX5_comes 13 = .ok (.aload_n 0, 1) := by decide +kernel
theorem dX5_comes_14 : decode cX5_comes 14 = .ok (.getfield 23, 3) := by decide +kernel
theorem dX5_comes_17 : decode cX5_comes 17 = .ok (.aload_n 0, 1) := by decide +kernel
theorem dX5_comes_18 : decode cX5_comes 18 = .ok (.getfield 19, 3) := by decide +kernel
theorem dX5_comes_21 : decode cX5_comes 21 = .ok (.invokevirtual 91, 3) := by decide +kernel
theorem dX5_comes_24 : decode cX5_comes 24 = .ok (.aload_n 0, 1) := by decide +kernel
theorem dX5_comes_25 : decode cX5_comes 25 = .ok (.getfield 23, 3) := by decide +kernel
theorem dX5_comes_28 : decode cX5_comes 28 = .ok (.iload_n 1, 1) := by decide +kernel
theorem dX5_comes_29 : decode cX5_comes 29 = .ok (.bipush 60, 2) := by decide +kernel
theorem dX5_comes_31 : decode cX5_comes 31 = .ok (.invokevirtual 172, 3) := by decide +kernel
theorem dX5_comes_34 : decode cX5_comes 34 = .ok (.ireturn, 1) := by decide +kernel
set_option maxRecDepth 20000 in
theorem ggX5_first_X0_copyFrom : GoodIn wsX5_first wsX0_copyFrom := goodIn_r _ [7, 8, 9, 10, 11, 12, 13, 14, 15, 16, 17, 18, 19, 20, 93, 94, 95, 96, 97, 98, 99, 100, 101] (by decide +kernel) (by decide +kernel)
set_option maxRecDepth 20000 in
theorem gX5_first_X0_copyFrom : GoodIn wsX5_first (wsV RX5 91 RX0 yX0_copyFrom wsX0_copyFrom) := goodIn_app (goodIn_of _ (by decide +kernel)) ggX5_first_X0_copyFrom
set_option maxRecDepth 20000 in
theorem ggX5_first_X0_isKnown : GoodIn wsX5_first wsX0_isKnown := goodIn_r _ [24, 16, 25, 26, 27, 93, 94, 95, 96, 97, 98, 99, 100, 101] (by decide +kernel) (by decide +kernel)
set_option maxRecDepth 20000 in
theorem gX5_first_X0_isKnown : GoodIn wsX5_first (wsV RX5 175 RX0 yX0_isKnown wsX0_isKnown) := goodIn_app (goodIn_of _ (by decide +kernel)) ggX5_first_X0_isKnown
set_option maxRecDepth 20000 in
theorem ggX5_first_X0_untilKnown : GoodIn wsX5_first wsX0_untilKnown := goodIn_r _ [31, 32, 22, 23, 6, 24, 16, 25, 26, 27, 33, 34, 35, 36, 37, 38, 39, 40, 18, 41, 42, 43, 44, 17, 45, 46, 47, 48, 14, 49, 50, 51, 52, 53, 54, 15, 55, 56, 57, 58, 59, 60, 61, 62, 63, 64, 65, 66, 67, 68, 69, 70, 71, 72, 13, 8, 73, 74, 75, 76, 77, 78, 79, 80, 81, 82, 83, 84, 93, 94, 95, 96, 97, 98, 99, 100, 101] (by decide +kernel) (by decide +kernel)
set_option maxRecDepth 20000 in
theorem gX5_first_X0_untilKnown : GoodIn wsX5_first (wsV RX5 172 RX0 yX0_untilKnown wsX0_untilKnown) := goodIn_app (goodIn_of _ (by decide +kernel)) ggX5_first_X0_untilKnown
theorem dX5_first_0 : decode cX5_first 0 = .ok (.bipush (-4), 2) := by decide +kernel
theorem dX5_first_2 : decode cX5_first 2 = .ok (.istore_n 1, 1) := by decide +kernel
theorem dX5_first_3 : decode cX5_first 3 = .ok (.bipush 60, 2) := by decide +kernel
theorem dX5_first_5 : decode cX5_first 5 = .ok (.istore_n 2, 1) := by decide +kernel
theorem dX5_first_6 : decode cX5_first 6 = .ok (.aload_n 0, 1) := by decide +kernel
theorem dX5_first_7 : decode cX5_first 7 = .ok (.getfield 23, 3) := by decide +kernel
theorem dX5_first_10 : decode cX5_first 10 = .ok (.aload_n 0, 1) := by decide +kernel
theorem dX5_first_11 : decode cX5_first 11 = .ok (.getfield 19, 3) := by decide +kernel
theorem dX5_first_14 : decode cX5_first 14 = .ok (.invokevirtual 91, 3) := by decide +kernel
theorem dX5_first_17 : decode cX5_first 17 = .ok (.iconst 0, 1) := by decide +kernel
theorem dX5_first_18 : decode cX5_first 18 = .ok (.istore_n 3, 1) := by decide +kernel
theorem dX5_first_19 : decode cX5_first 19 = .ok (.iload_n 3, 1) := by decide +kernel
theorem dX5_first_20 : decode cX5_first 20 = .ok (.aload_n 0, 1) := by decide +kernel
theorem dX5_first_21 : decode cX5_first 21 = .ok (.getfield 19, 3) := by decide +kernel
theorem dX5_first_24 : decode cX5_first 24 = .ok (.getfield 88, 3) := by decide +kernel
theorem dX5_first_27 : decode cX5_first 27 = .ok (.if_icmp .ge 50, 3) := by decide +kernel
theorem dX5_first_30 : decode cX5_first 30 = .ok (.aload_n 0, 1) := by decide +kernel
theorem dX5_first_31 : decode cX5_first 31 = .ok (.getfield 19, 3) := by decide +kernel
theorem dX5_first_34 : decode cX5_first 34 = .ok (.iload_n 3, 1) := by decide +kernel
theorem dX5_first_35 : decode cX5_first 35 = .ok (.invokevirtual 175, 3) := by decide +kernel
theorem dX5_first_38 : decode cX5_first 38 = .ok (.ifCond .eq 8, 3) := by decide +kernel
theorem dX5_first_41 : decode cX5_first 41 = .ok (.bipush (-4), 2) := by decide +kernel
theorem dX5_first_43 : decode cX5_first 43 = .ok (.goto 12, 3) := by decide +kernel
theorem dX5_first_46 : decode cX5_first 46 = .ok (.aload_n 0, 1) := by decide +kernel
theorem dX5_first_47 : decode cX5_first 47 = .ok (.getfield 23, 3) := by decide +kernel
theorem dX5_first_50 : decode cX5_first 50 = .ok (.iload_n 3, 1) := by decide +kernel
theorem dX5_first_51 : decode cX5_first 51 = .ok (.iload_n 2, 1) := by decide +kernel
theorem dX5_first_52 : decode cX5_first 52 = .ok (.invokevirtual 172, 3) := by decide +kernel
theorem dX5_first_55 : decode cX5_first 55 = .ok (.istore 4, 2) := by decide +kernel
theorem dX5_first_57 : decode cX5_first 57 = .ok (.iload 4, 2) := by decide +kernel
theorem dX5_first_59 : decode cX5_first 59 = .ok (.bipush (-4), 2) := by decide +kernel
theorem dX5_first_61 : decode cX5_first 61 = .ok (.if_icmp .eq 10, 3) := by decide +kernel
theorem dX5_first_64 : decode cX5_first 64 = .ok (.iload_n 3, 1) := by decide +kernel
theorem dX5_first_65 : decode cX5_first 65 = .ok (.istore_n 1, 1) := by decide +kernel
theorem dX5_first_66 : decode cX5_first 66 = .ok (.iload 4, 2) := by decide +kernel
theorem dX5_first_68 : decode cX5_first 68 = .ok (.iconst 1, 1) := by decide +kernel
theorem dX5_first_69 : decode cX5_first 69 = .ok (.isub, 1) := by decide +kernel
theorem dX5_first_70 : decode cX5_first 70 = .ok (.istore_n 2, 1) := by decide +kernel
theorem dX5_first_71 : decode cX5_first 71 = .ok (.iinc 3 1, 3) := by decide +kernel
theorem dX5_first_74 : decode cX5_first 74 = .ok (.goto (-55), 3) := by decide +kernel
theorem dX5_first_77 : decode cX5_first 77 = .ok (.iload_n 1, 1) := by decide +kernel
theorem dX5_first_78 : decode cX5_first 78 = .ok (.ireturn, 1) := by decide +kernel
set_option maxRecDepth 20000 in
theorem ggX5_hush_X5_convinced : GoodIn wsX5_hush wsX5_convinced := goodIn_r _ [5, 6, 7, 8, 9, 10, 11, 12, 13, 14, 4, 15, 16, 17, 18, 19, 20, 21, 22, 23, 24, 25, 26, 27, 28, 29, 30, 31, 32, 33, 34, 35, 36, 37, 38, 39, 40, 41, 42, 43, 44, 45, 46, 47, 48, 49, 50, 51, 52, 53, 54, 55, 56, 57, 58, 59, 60, 61, 62, 63, 64, 65, 66, 67, 68, 69, 70, 71, 72, 73, 74, 75, 76, 77, 78, 79, 80, 81, 82, 83, 84, 85, 86, 87, 88, 89, 90, 91, 92, 93, 94, 95, 96, 97, 98, 99, 100, 101, 102, 103, 104, 105, 106, 107, 108, 109, 110, 111, 112, 113, 114, 115, 116, 117, 118, 119, 120, 121] (by decide +kernel) (by decide +kernel)
set_option maxRecDepth 20000 in
theorem gX5_hush_X5_convinced : GoodIn wsX5_hush (wsV RX5 178 RX5 yX5_convinced wsX5_convinced) := goodIn_app (goodIn_of _ (by decide +kernel)) ggX5_hush_X5_convinced
theorem dX5_hush_0 : decode cX5_hush 0 = .ok (.aload_n 0, 1) := by decide +kernel
theorem dX5_hush_1 : decode cX5_hush 1 = .ok (.iload_n 1, 1) := by decide +kernel
theorem dX5_hush_2 : decode cX5_hush 2 = .ok (.iload_n 2, 1) := by decide +kernel
theorem dX5_hush_3 : decode cX5_hush 3 = .ok (.iload_n 3, 1) := by decide +kernel
theorem dX5_hush_4 : decode cX5_hush 4 = .ok (.bipush 9, 2) := by decide +kernel
theorem dX5_hush_6 : decode cX5_hush 6 = .ok (.invokevirtual 178, 3) := by decide +kernel
theorem dX5_hush_9 : decode cX5_hush 9 = .ok (.ireturn, 1) := by decide +kernel
set_option maxRecDepth 20000 in
theorem ggX5_loose_X5_convinced : GoodIn wsX5_loose wsX5_convinced := goodIn_r _ [5, 6, 7, 8, 9, 10, 11, 12, 13, 14, 4, 15, 16, 17, 18, 19, 20, 21, 22, 23, 24, 25, 26, 27, 28, 29, 30, 31, 32, 33, 34, 35, 36, 37, 38, 39, 40, 41, 42, 43, 44, 45, 46, 47, 48, 49, 50, 51, 52, 53, 54, 55, 56, 57, 58, 59, 60, 61, 62, 63, 64, 65, 66, 67, 68, 69, 70, 71, 72, 73, 74, 75, 76, 77, 78, 79, 80, 81, 82, 83, 84, 85, 86, 87, 88, 89, 90, 91, 92, 93, 94, 95, 96, 97, 98, 99, 100, 101, 102, 103, 104, 105, 106, 107, 108, 109, 110, 111, 112, 113, 114, 115, 116, 117, 118, 119, 120, 121] (by decide +kernel) (by decide +kernel)
set_option maxRecDepth 20000 in
theorem gX5_loose_X5_convinced : GoodIn wsX5_loose (wsV RX5 178 RX5 yX5_convinced wsX5_convinced) := goodIn_app (goodIn_of _ (by decide +kernel)) ggX5_loose_X5_convinced
theorem dX5_loose_0 : decode cX5_loose 0 = .ok (.aload_n 0, 1) := by decide +kernel
theorem dX5_loose_1 : decode cX5_loose 1 = .ok (.iload_n 1, 1) := by decide +kernel
theorem dX5_loose_2 : decode cX5_loose 2 = .ok (.iload_n 2, 1) := by decide +kernel
theorem dX5_loose_3 : decode cX5_loose 3 = .ok (.iload_n 3, 1) := by decide +kernel
theorem dX5_loose_4 : decode cX5_loose 4 = .ok (.iconst 0, 1) := by decide +kernel
theorem dX5_loose_5 : decode cX5_loose 5 = .ok (.invokevirtual 178, 3) := by decide +kernel
theorem dX5_loose_8 : decode cX5_loose 8 = .ok (.ireturn, 1) := by decide +kernel
set_option maxRecDepth 20000 in
theorem ggX5_sooner_X0_isNews : GoodIn wsX5_sooner wsX0_isNews := goodIn_r _ [6, 7, 108, 109, 110, 111, 112, 113, 114, 115, 116] (by decide +kernel) (by decide +kernel)
set_option maxRecDepth 20000 in
theorem gX5_sooner_X0_isNews : GoodIn wsX5_sooner (wsV RX5 122 RX0 yX0_isNews wsX0_isNews) := goodIn_app (goodIn_of _ (by decide +kernel)) ggX5_sooner_X0_isNews
set_option maxRecDepth 20000 in
theorem ggX5_sooner_X5_isIn : GoodIn wsX5_sooner wsX5_isIn := goodIn_r _ [11] (by decide +kernel) (by decide +kernel)
set_option maxRecDepth 20000 in
theorem gX5_sooner_X5_isIn : GoodIn wsX5_sooner (va_wsS RX5 78 yX5_isIn wsX5_isIn) := goodIn_app (goodIn_of _ (by decide +kernel)) ggX5_sooner_X5_isIn
set_option maxRecDepth 20000 in
theorem ggX5_sooner_X0_isKnown : GoodIn wsX5_sooner wsX0_isKnown := goodIn_r _ [15, 16, 17, 10, 18, 108, 109, 110, 111, 112, 113, 114, 115, 116] (by decide +kernel) (by decide +kernel)
set_option maxRecDepth 20000 in
theorem gX5_sooner_X0_isKnown : GoodIn wsX5_sooner (wsV RX5 175 RX0 yX0_isKnown wsX0_isKnown) := goodIn_app (goodIn_of _ (by decide +kernel)) ggX5_sooner_X0_isKnown
set_option maxRecDepth 20000 in
theorem ggX5_sooner_X5_soonestSwap : GoodIn wsX5_sooner wsX5_soonestSwap := goodIn_r _ [22, 23, 1, 24, 25, 26, 5, 27, 28, 29, 30, 31, 32, 33, 34, 35, 16, 36, 37, 7, 38, 39, 40, 41, 42, 43, 13, 14, 15, 17, 10, 18, 44, 45, 46, 47, 48, 49, 50, 51, 52, 53, 54, 55, 56, 57, 58, 59, 60, 61, 62, 63, 64, 65, 66, 67, 68, 69, 70, 71, 72, 73, 74, 75, 76, 77, 78, 79, 80, 81, 82, 83, 84, 85, 86, 87, 88, 89, 90, 91, 92, 93, 94, 95, 96, 97, 98, 99, 100, 101, 102, 103, 104, 105, 106, 107, 108, 109, 110, 111, 112, 113, 114, 115, 116] (by decide +kernel) (by decide +kernel)
set_option maxRecDepth 20000 in
theorem gX5_sooner_X5_soonestSwap : GoodIn wsX5_sooner (wsV RX5 182 RX5 yX5_soonestSwap wsX5_soonestSwap) := goodIn_app (goodIn_of _ (by decide +kernel)) ggX5_sooner_X5_soonestSwap
theorem dX5_sooner_0 : decode cX5_sooner 0 = .ok (.aload_n 0, 1) := by decide +kernel
theorem dX5_sooner_1 : decode cX5_sooner 1 = .ok (.getfield 19, 3) := by decide +kernel
theorem dX5_sooner_4 : decode cX5_sooner 4 = .ok (.iload_n 1, 1) := by decide +kernel
theorem dX5_sooner_5 : decode cX5_sooner 5 = .ok (.invokevirtual 122, 3) := by decide +kernel
theorem dX5_sooner_8 : decode cX5_sooner 8 = .ok (.ifCond .eq 12, 3) := by decide +kernel
theorem dX5_sooner_11 : decode cX5_sooner 11 = .ok (.iload_n 2, 1) := by decide +kernel
theorem dX5_sooner_12 : decode cX5_sooner 12 = .ok (.iconst 0, 1) := by decide +kernel
theorem dX5_sooner_13 : decode cX5_sooner 13 = .ok (.iconst 1, 1) := by decide +kernel
theorem dX5_sooner_14 : decode cX5_sooner 14 = .ok (.invokestatic 78, 3) := by decide +kernel
theorem dX5_sooner_17 : decode cX5_sooner 17 = .ok (.ifCond .ne 5, 3) := by decide +kernel
theorem dX5_sooner_20 : decode cX5_sooner 20 = .ok (.iconst (-1), 1) := by decide +kernel
theorem dX5_sooner_21 : decode cX5_sooner 21 = .ok (.ireturn, 1) := by decide +kernel
theorem dX5_sooner_22 : decode cX5_sooner 22 = .ok (.aload_n 0, 1) := by decide +kernel
theorem dX5_sooner_23 : decode cX5_sooner 23 = .ok (.getfield 19, 3) := by decide +kernel
theorem dX5_sooner_26 : decode cX5_sooner 26 = .ok (.iload_n 1, 1) := by decide +kernel
theorem dX5_sooner_27 : decode cX5_sooner 27 = .ok (.invokevirtual 175, 3) := by decide +kernel
theorem dX5_sooner_30 : decode cX5_sooner 30 = .ok (.ifCond .eq 6, 3) := by decide +kernel
theorem dX5_sooner_33 : decode cX5_sooner 33 = .ok (.bipush (-2), 2) := by decide +kernel
theorem dX5_sooner_35 : decode cX5_sooner 35 = .ok (.ireturn, 1) := by decide +kernel
theorem dX5_sooner_36 : decode cX5_sooner 36 = .ok (.aload_n 0, 1) := by decide +kernel
theorem dX5_sooner_37 : decode cX5_sooner 37 = .ok (.iload_n 1, 1) := by decide +kernel
theorem dX5_sooner_38 : decode cX5_sooner 38 = .ok (.invokevirtual 182, 3) := by decide +kernel
theorem dX5_sooner_41 : decode cX5_sooner 41 = .ok (.istore_n 3, 1) := by decide +kernel
theorem dX5_sooner_42 : decode cX5_sooner 42 = .ok (.iload_n 3, 1) := by decide +kernel
theorem dX5_sooner_43 : decode cX5_sooner 43 = .ok (.bipush (-4), 2) := by decide +kernel
theorem dX5_sooner_45 : decode cX5_sooner 45 = .ok (.if_icmp .ne 6, 3) := by decide +kernel
theorem dX5_sooner_48 : decode cX5_sooner 48 = .ok (.bipush (-4), 2) := by decide +kernel
theorem dX5_sooner_50 : decode cX5_sooner 50 = .ok (.ireturn, 1) := by decide +kernel
theorem dX5_sooner_51 : decode cX5_sooner 51 = .ok (.iload_n 2, 1) := by decide +kernel
theorem dX5_sooner_52 : decode cX5_sooner 52 = .ok (.ifCond .ne 10, 3) := by decide +kernel
theorem dX5_sooner_55 : decode cX5_sooner 55 = .ok (.iload_n 3, 1) := by decide +kernel
theorem dX5_sooner_56 : decode cX5_sooner 56 = .ok (.bipush 100, 2) := by decide +kernel
theorem dX5_sooner_58 : decode cX5_sooner 58 = .ok (.irem, 1) := by decide +kernel
theorem dX5_sooner_59 : decode cX5_sooner 59 = .ok (.goto 7, 3) := by decide +kernel
theorem dX5_sooner_62 : decode cX5_sooner 62 = .ok (.iload_n 3, 1) := by decide +kernel
theorem dX5_sooner_63 : decode cX5_sooner 63 = .ok (.bipush 100, 2) := by decide +kernel
theorem dX5_sooner_65 : decode cX5_sooner 65 = .ok (.idiv, 1) := by decide +kernel
theorem dX5_sooner_66 : decode cX5_sooner 66 = .ok (.ireturn, 1) := by decide +kernel
set_option maxRecDepth 20000 in
theorem ggX5_offices_X0_isNews : GoodIn wsX5_offices wsX0_isNews := goodIn_r _ [7, 8, 70, 71, 72, 73, 74, 75, 76, 77, 78] (by decide +kernel) (by decide +kernel)
set_option maxRecDepth 20000 in
theorem gX5_offices_X0_isNews : GoodIn wsX5_offices (wsV RX5 122 RX0 yX0_isNews wsX0_isNews) := goodIn_app (goodIn_of _ (by decide +kernel)) ggX5_offices_X0_isNews
set_option maxRecDepth 20000 in
theorem ggX5_offices_X1_weigh : GoodIn wsX5_offices wsX1_weigh := goodIn_r _ [13, 14, 15, 16, 17, 18, 19, 20, 12, 21, 22, 23, 24, 6, 25, 26, 27, 28, 29, 30, 31, 32, 33, 34, 35, 36, 37, 38, 39, 40, 41, 42, 43, 44, 45, 46, 47, 48, 49, 50, 51, 52, 79, 70, 71, 72, 73, 74, 75, 76, 77, 78] (by decide +kernel) (by decide +kernel)
set_option maxRecDepth 20000 in
theorem gX5_offices_X1_weigh : GoodIn wsX5_offices (wsV RX5 185 RX1 yX1_weigh wsX1_weigh) := goodIn_app (goodIn_of _ (by decide +kernel)) ggX5_offices_X1_weigh
set_option maxRecDepth 20000 in
theorem ggX5_offices_X1_mostFrom : GoodIn wsX5_offices wsX1_mostFrom := goodIn_r _ [50, 14, 27, 16, 28, 79] (by decide +kernel) (by decide +kernel)
set_option maxRecDepth 20000 in
theorem gX5_offices_X1_mostFrom : GoodIn wsX5_offices (wsV RX5 188 RX1 yX1_mostFrom wsX1_mostFrom) := goodIn_app (goodIn_of _ (by decide +kernel)) ggX5_offices_X1_mostFrom
set_option maxRecDepth 20000 in
theorem ggX5_offices_X1_receiver : GoodIn wsX5_offices wsX1_receiver := goodIn_r _ [57, 18, 19, 20, 12, 21, 22, 23, 24, 6, 25, 26, 27, 16, 28, 29, 30, 31, 32, 33, 34, 35, 36, 37, 38, 58, 59, 60, 61, 51, 52, 47, 48, 49, 50, 14, 70, 71, 72, 73, 74, 75, 76, 77, 78, 79] (by decide +kernel) (by decide +kernel)
set_option maxRecDepth 20000 in
theorem gX5_offices_X1_receiver : GoodIn wsX5_offices (wsV RX5 191 RX1 yX1_receiver wsX1_receiver) := goodIn_app (goodIn_of _ (by decide +kernel)) ggX5_offices_X1_receiver
theorem dX5_offices_0 : decode cX5_offices 0 = .ok (.iload_n 1, 1) := by decide +kernel
theorem dX5_offices_1 : decode cX5_offices 1 = .ok (.iconst (-1), 1) := by decide +kernel
theorem dX5_offices_2 : decode cX5_offices 2 = .ok (.if_icmp .eq 16, 3) := by decide +kernel
theorem dX5_offices_5 : decode cX5_offices 5 = .ok (.aload_n 0, 1) := by decide +kernel
theorem dX5_offices_6 : decode cX5_offices 6 = .ok (.getfield 19, 3) := by decide +kernel
theorem dX5_offices_9 : decode cX5_offices 9 = .ok (.iload_n 1, 1) := by decide +kernel
theorem dX5_offices_10 : decode cX5_offices 10 = .ok (.invokevirtual 122, 3) := by decide +kernel
theorem dX5_offices_13 : decode cX5_offices 13 = .ok (.ifCond .ne 5, 3) := by decide +kernel
theorem dX5_offices_16 : decode cX5_offices 16 = .ok (.iconst (-1), 1) := by decide +kernel
theorem dX5_offices_17 : decode cX5_offices 17 = .ok (.ireturn, 1) := by decide +kernel
theorem dX5_offices_18 : decode cX5_offices 18 = .ok (.aload_n 0, 1) := by decide +kernel
theorem dX5_offices_19 : decode cX5_offices 19 = .ok (.getfield 48, 3) := by decide +kernel
theorem dX5_offices_22 : decode cX5_offices 22 = .ok (.aload_n 0, 1) := by decide +kernel
theorem dX5_offices_23 : decode cX5_offices 23 = .ok (.getfield 19, 3) := by decide +kernel
theorem dX5_offices_26 : decode cX5_offices 26 = .ok (.invokevirtual 185, 3) := by decide +kernel
theorem dX5_offices_29 : decode cX5_offices 29 = .ok (.iload_n 1, 1) := by decide +kernel
theorem dX5_offices_30 : decode cX5_offices 30 = .ok (.iconst (-1), 1) := by decide +kernel
theorem dX5_offices_31 : decode cX5_offices 31 = .ok (.if_icmp .ne 15, 3) := by decide +kernel
theorem dX5_offices_34 : decode cX5_offices 34 = .ok (.aload_n 0, 1) := by decide +kernel
theorem dX5_offices_35 : decode cX5_offices 35 = .ok (.getfield 48, 3) := by decide +kernel
theorem dX5_offices_38 : decode cX5_offices 38 = .ok (.iconst 0, 1) := by decide +kernel
theorem dX5_offices_39 : decode cX5_offices 39 = .ok (.iconst 0, 1) := by decide +kernel
theorem dX5_offices_40 : decode cX5_offices 40 = .ok (.invokevirtual 188, 3) := by decide +kernel
theorem dX5_offices_43 : decode cX5_offices 43 = .ok (.goto 15, 3) := by decide +kernel
theorem dX5_offices_46 : decode cX5_offices 46 = .ok (.aload_n 0, 1) := by decide +kernel
theorem dX5_offices_47 : decode cX5_offices 47 = .ok (.getfield 48, 3) := by decide +kernel
theorem dX5_offices_50 : decode cX5_offices 50 = .ok (.aload_n 0, 1) := by decide +kernel
theorem dX5_offices_51 : decode cX5_offices 51 = .ok (.getfield 19, 3) := by decide +kernel
theorem dX5_offices_54 : decode cX5_offices 54 = .ok (.iload_n 1, 1) := by decide +kernel
theorem dX5_offices_55 : decode cX5_offices 55 = .ok (.invokevirtual 191, 3) := by decide +kernel
theorem dX5_offices_58 : decode cX5_offices 58 = .ok (.ireturn, 1) := by decide +kernel
set_option maxRecDepth 20000 in
theorem ggX5_mute_X0_isKnown : GoodIn wsX5_mute wsX0_isKnown := goodIn_r _ [6, 7, 8, 9, 10, 29, 30, 31, 32, 33, 34, 35, 36, 37] (by decide +kernel) (by decide +kernel)
set_option maxRecDepth 20000 in
theorem gX5_mute_X0_isKnown : GoodIn wsX5_mute (wsV RX5 175 RX0 yX0_isKnown wsX0_isKnown) := goodIn_app (goodIn_of _ (by decide +kernel)) ggX5_mute_X0_isKnown
set_option maxRecDepth 20000 in
theorem ggX5_mute_X0_doubters : GoodIn wsX5_mute wsX0_doubters := goodIn_r _ [14, 15, 16, 17, 18, 5, 19, 20, 8, 9, 10, 29, 30, 31, 32, 33, 34, 35, 36, 37] (by decide +kernel) (by decide +kernel)
set_option maxRecDepth 20000 in
theorem gX5_mute_X0_doubters : GoodIn wsX5_mute (wsV RX5 128 RX0 yX0_doubters wsX0_doubters) := goodIn_app (goodIn_of _ (by decide +kernel)) ggX5_mute_X0_doubters
theorem dX5_mute_0 : decode cX5_mute 0 = .ok (.iconst 0, 1) := by decide +kernel
theorem dX5_mute_1 : decode cX5_mute 1 = .ok (.istore_n 1, 1) := by decide +kernel
theorem dX5_mute_2 : decode cX5_mute 2 = .ok (.iconst 0, 1) := by decide +kernel
theorem dX5_mute_3 : decode cX5_mute 3 = .ok (.istore_n 2, 1) := by decide +kernel
theorem dX5_mute_4 : decode cX5_mute 4 = .ok (.iload_n 2, 1) := by decide +kernel
theorem dX5_mute_5 : decode cX5_mute 5 = .ok (.aload_n 0, 1) := by decide +kernel
theorem dX5_mute_6 : decode cX5_mute 6 = .ok (.getfield 19, 3) := by decide +kernel
theorem dX5_mute_9 : decode cX5_mute 9 = .ok (.getfield 88, 3) := by decide +kernel
theorem dX5_mute_12 : decode cX5_mute 12 = .ok (.if_icmp .ge 37, 3) := by decide +kernel
theorem dX5_mute_15 : decode cX5_mute 15 = .ok (.aload_n 0, 1) := by decide +kernel
theorem dX5_mute_16 : decode cX5_mute 16 = .ok (.getfield 19, 3) := by decide +kernel
theorem dX5_mute_19 : decode cX5_mute 19 = .ok (.iload_n 2, 1) := by decide +kernel
theorem dX5_mute_20 : decode cX5_mute 20 = .ok (.invokevirtual 175, 3) := by decide +kernel
theorem dX5_mute_23 : decode cX5_mute 23 = .ok (.ifCond .ne 20, 3) := by decide +kernel
theorem dX5_mute_26 : decode cX5_mute 26 = .ok (.aload_n 0, 1) := by decide +kernel
theorem dX5_mute_27 : decode cX5_mute 27 = .ok (.getfield 19, 3) := by decide +kernel
theorem dX5_mute_30 : decode cX5_mute 30 = .ok (.iload_n 2, 1) := by decide +kernel
theorem dX5_mute_31 : decode cX5_mute 31 = .ok (.invokevirtual 128, 3) := by decide +kernel
theorem dX5_mute_34 : decode cX5_mute 34 = .ok (.ifCond .ne 9, 3) := by decide +kernel
theorem dX5_mute_37 : decode cX5_mute 37 = .ok (.iload_n 1, 1) := by decide +kernel
theorem dX5_mute_38 : decode cX5_mute 38 = .ok (.iconst 1, 1) := by decide +kernel
theorem dX5_mute_39 : decode cX5_mute 39 = .ok (.iload_n 2, 1) := by decide +kernel
theorem dX5_mute_40 : decode cX5_mute 40 = .ok (.ishl, 1) := by decide +kernel
theorem dX5_mute_41 : decode cX5_mute 41 = .ok (.ior, 1) := by decide +kernel
theorem dX5_mute_42 : decode cX5_mute 42 = .ok (.istore_n 1, 1) := by decide +kernel
theorem dX5_mute_43 : decode cX5_mute 43 = .ok (.iinc 2 1, 3) := by decide +kernel
theorem dX5_mute_46 : decode cX5_mute 46 = .ok (.goto (-42), 3) := by decide +kernel
theorem dX5_mute_49 : decode cX5_mute 49 = .ok (.iload_n 1, 1) := by decide +kernel
theorem dX5_mute_50 : decode cX5_mute 50 = .ok (.ireturn, 1) := by decide +kernel
set_option maxRecDepth 20000 in
theorem ggX5_see_X0_isCourtier : GoodIn wsX5_see wsX0_isCourtier := goodIn_r _ [7, 8, 34, 35, 36, 37, 38, 39, 40, 41, 42] (by decide +kernel) (by decide +kernel)
set_option maxRecDepth 20000 in
theorem gX5_see_X0_isCourtier : GoodIn wsX5_see (wsV RX5 97 RX0 yX0_isCourtier wsX0_isCourtier) := goodIn_app (goodIn_of _ (by decide +kernel)) ggX5_see_X0_isCourtier
set_option maxRecDepth 20000 in
theorem ggX5_see_X5_isIn : GoodIn wsX5_see wsX5_isIn := goodIn_r _ [12] (by decide +kernel) (by decide +kernel)
set_option maxRecDepth 20000 in
theorem gX5_see_X5_isIn : GoodIn wsX5_see (va_wsS RX5 78 yX5_isIn wsX5_isIn) := goodIn_app (goodIn_of _ (by decide +kernel)) ggX5_see_X5_isIn
set_option maxRecDepth 20000 in
theorem ggX5_see_X3_add : GoodIn wsX5_see wsX3_add := goodIn_r _ [17, 18, 19, 20, 21, 11, 22, 31, 32, 33] (by decide +kernel) (by decide +kernel)
set_option maxRecDepth 20000 in
theorem gX5_see_X3_add : GoodIn wsX5_see (wsV RX5 196 RX3 yX3_add wsX3_add) := goodIn_app (goodIn_of _ (by decide +kernel)) ggX5_see_X3_add
theorem dX5_see_0 : decode cX5_see 0 = .ok (.iload_n 1, 1) := by decide +kernel
theorem dX5_see_1 : decode cX5_see 1 = .ok (.bipush 9, 2) := by decide +kernel
theorem dX5_see_3 : decode cX5_see 3 = .ok (.if_icmp .eq 14, 3) := by decide +kernel
theorem dX5_see_6 : decode cX5_see 6 = .ok (.aload_n 0, 1) := by decide +kernel
theorem dX5_see_7 : decode cX5_see 7 = .ok (.getfield 19, 3) := by decide +kernel
theorem dX5_see_10 : decode cX5_see 10 = .ok (.iload_n 1, 1) := by decide +kernel
theorem dX5_see_11 : decode cX5_see 11 = .ok (.invokevirtual 97, 3) := by decide +kernel
theorem dX5_see_14 : decode cX5_see 14 = .ok (.ifCond .eq 13, 3) := by decide +kernel
theorem dX5_see_17 : decode cX5_see 17 = .ok (.iload_n 2, 1) := by decide +kernel
theorem dX5_see_18 : decode cX5_see 18 = .ok (.iconst 0, 1) := by decide +kernel
theorem dX5_see_19 : decode cX5_see 19 = .ok (.bipush 20, 2) := by decide +kernel
theorem dX5_see_21 : decode cX5_see 21 = .ok (.invokestatic 78, 3) := by decide +kernel
theorem dX5_see_24 : decode cX5_see 24 = .ok (.ifCond .ne 5, 3) := by decide +kernel
theorem dX5_see_27 : decode cX5_see 27 = .ok (.iconst (-1), 1) := by decide +kernel
theorem dX5_see_28 : decode cX5_see 28 = .ok (.ireturn, 1) := by decide +kernel
theorem dX5_see_29 : decode cX5_see 29 = .ok (.aload_n 0, 1) := by decide +kernel
theorem dX5_see_30 : decode cX5_see 30 = .ok (.getfield 41, 3) := by decide +kernel
theorem dX5_see_33 : decode cX5_see 33 = .ok (.getfield 195, 3) := by decide +kernel
theorem dX5_see_36 : decode cX5_see 36 = .ok (.bipush 6, 2) := by decide +kernel
theorem dX5_see_38 : decode cX5_see 38 = .ok (.if_icmp .lt 6, 3) := by decide +kernel
theorem dX5_see_41 : decode cX5_see 41 = .ok (.bipush (-3), 2) := by decide +kernel
theorem dX5_see_43 : decode cX5_see 43 = .ok (.ireturn, 1) := by decide +kernel
theorem dX5_see_44 : decode cX5_see 44 = .ok (.aload_n 0, 1) := by decide +kernel
theorem dX5_see_45 : decode cX5_see 45 = .ok (.getfield 41, 3) := by decide +kernel
theorem dX5_see_48 : decode cX5_see 48 = .ok (.iload_n 1, 1) := by decide +kernel
theorem dX5_see_49 : decode cX5_see 49 = .ok (.iload_n 2, 1) := by decide +kernel
theorem dX5_see_50 : decode cX5_see 50 = .ok (.invokevirtual 196, 3) := by decide +kernel
theorem dX5_see_53 : decode cX5_see 53 = .ok (.aload_n 0, 1) := by decide +kernel
theorem dX5_see_54 : decode cX5_see 54 = .ok (.getfield 41, 3) := by decide +kernel
theorem dX5_see_57 : decode cX5_see 57 = .ok (.getfield 195, 3) := by decide +kernel
theorem dX5_see_60 : decode cX5_see 60 = .ok (.ireturn, 1) := by decide +kernel
set_option maxRecDepth 20000 in
theorem ggX5_forget_X3_clear : GoodIn wsX5_forget wsX3_clear := goodIn_r _ [6, 7, 16, 17, 18] (by decide +kernel) (by decide +kernel)
set_option maxRecDepth 20000 in
theorem gX5_forget_X3_clear : GoodIn wsX5_forget (wsV RX5 96 RX3 yX3_clear wsX3_clear) := goodIn_app (goodIn_of _ (by decide +kernel)) ggX5_forget_X3_clear
theorem dX5_forget_0 : decode cX5_forget 0 = .ok (.aload_n 0, 1) := by decide +kernel
theorem dX5_forget_1 : decode cX5_forget 1 = .ok (.getfield 41, 3) := by decide +kernel
theorem dX5_forget_4 : decode cX5_forget 4 = .ok (.getfield 195, 3) := by decide +kernel
theorem dX5_forget_7 : decode cX5_forget 7 = .ok (.istore_n 1, 1) := by decide +kernel
theorem dX5_forget_8 : decode cX5_forget 8 = .ok (.aload_n 0, 1) := by decide +kernel
theorem dX5_forget_9 : decode cX5_forget 9 = .ok (.getfield 41, 3) := by decide +kernel
theorem dX5_forget_12 : decode cX5_forget 12 = .ok (.invokevirtual 96, 3) := by decide +kernel
theorem dX5_forget_15 : decode cX5_forget 15 = .ok (.iload_n 1, 1) := by decide +kernel
theorem dX5_forget_16 : decode cX5_forget 16 = .ok (.ireturn, 1) := by decide +kernel
set_option maxRecDepth 20000 in
theorem ggX5_which_X0_copyFrom : GoodIn wsX5_which wsX0_copyFrom := goodIn_r _ [8, 9, 10, 11, 12, 13, 14, 15, 16, 17, 18, 19, 20, 21, 101, 102, 103, 104, 105, 106, 107, 108, 109] (by decide +kernel) (by decide +kernel)
set_option maxRecDepth 20000 in
theorem gX5_which_X0_copyFrom : GoodIn wsX5_which (wsV RX5 91 RX0 yX0_copyFrom wsX0_copyFrom) := goodIn_app (goodIn_of _ (by decide +kernel)) ggX5_which_X0_copyFrom
set_option maxRecDepth 20000 in
theorem ggX5_which_X3_wouldBeSo : GoodIn wsX5_which wsX3_wouldBeSo := goodIn_r _ [26, 27, 28, 29, 30, 31, 32, 25, 33, 34, 35, 36, 37, 38, 39, 7, 40, 41, 42, 43, 44, 17, 45, 46, 47, 48, 19, 49, 50, 51, 52, 18, 53, 54, 55, 56, 15, 57, 58, 59, 60, 61, 62, 16, 63, 64, 65, 66, 67, 68, 69, 70, 71, 72, 73, 74, 75, 76, 77, 78, 79, 80, 14, 9, 81, 82, 83, 84, 85, 86, 87, 88, 89, 90, 91, 92, 101, 102, 103, 104, 105, 106, 107, 108, 109, 110, 111, 112] (by decide +kernel) (by decide +kernel)
set_option maxRecDepth 20000 in
theorem gX5_which_X3_wouldBeSo : GoodIn wsX5_which (wsV RX5 199 RX3 yX3_wouldBeSo wsX3_wouldBeSo) := goodIn_app (goodIn_of _ (by decide +kernel)) ggX5_which_X3_wouldBeSo
theorem dX5_which_0 : decode cX5_which 0 = .ok (.iconst 0, 1) := by decide +kernel
theorem dX5_which_1 : decode cX5_which 1 = .ok (.istore_n 1, 1) := by decide +kernel
theorem dX5_which_2 : decode cX5_which 2 = .ok (.aload_n 0, 1) := by decide +kernel
theorem dX5_which_3 : decode cX5_which 3 = .ok (.getfield 23, 3) := by decide +kernel
theorem dX5_which_6 : decode cX5_which 6 = .ok (.aload_n 0, 1) := by decide +kernel
theorem dX5_which_7 : decode cX5_which 7 = .ok (.getfield 19, 3) := by decide +kernel
theorem dX5_which_10 : decode cX5_which 10 = .ok (.invokevirtual 91, 3) := by decide +kernel
theorem dX5_which_13 : decode cX5_which 13 = .ok (.iconst 0, 1) := by decide +kernel
theorem dX5_which_14 : decode cX5_which 14 = .ok (.istore_n 2, 1) := by decide +kernel
theorem dX5_which_15 : decode cX5_which 15 = .ok (.iload_n 2, 1) := by decide +kernel
theorem dX5_which_16 : decode cX5_which 16 = .ok (.aload_n 0, 1) := by decide +kernel
theorem dX5_which_17 : decode cX5_which 17 = .ok (.getfield 19, 3) := by decide +kernel
theorem dX5_which_20 : decode cX5_which 20 = .ok (.getfield 88, 3) := by decide +kernel
theorem dX5_which_23 : decode cX5_which 23 = .ok (.if_icmp .ge 30, 3) := by decide +kernel
theorem dX5_which_26 : decode cX5_which 26 = .ok (.aload_n 0, 1) := by decide +kernel
theorem dX5_which_27 : decode cX5_which 27 = .ok (.getfield 41, 3) := by decide +kernel
theorem dX5_which_30 : decode cX5_which 30 = .ok (.aload_n 0, 1) := by decide +kernel
theorem dX5_which_31 : decode cX5_which 31 = .ok (.getfield 23, 3) := by decide +kernel
theorem dX5_which_34 : decode cX5_which 34 = .ok (.iload_n 2, 1) := by decide +kernel
theorem dX5_which_35 : decode cX5_which 35 = .ok (.invokevirtual 199, 3) := by decide +kernel
theorem dX5_which_38 : decode cX5_which 38 = .ok (.ifCond .eq 9, 3) := by decide +kernel
theorem dX5_which_41 : decode cX5_which 41 = .ok (.iload_n 1, 1) := by decide +kernel
theorem dX5_which_42 : decode cX5_which 42 = .ok (.iconst 1, 1) := by decide +kernel
theorem dX5_which_43 : decode cX5_which 43 = .ok (.iload_n 2, 1) := by decide +kernel
theorem dX5_which_44 : decode cX5_which 44 = .ok (.ishl, 1) := by decide +kernel
theorem dX5_which_45 : decode cX5_which 45 = .ok (.ior, 1) := by decide +kernel
theorem dX5_which_46 : decode cX5_which 46 = .ok (.istore_n 1, 1) := by decide +kernel
theorem dX5_which_47 : decode cX5_which 47 = .ok (.iinc 2 1, 3) := by decide +kernel
theorem dX5_which_50 : decode cX5_which 50 = .ok (.goto (-35), 3) := by decide +kernel
theorem dX5_which_53 : decode cX5_which 53 = .ok (.iload_n 1, 1) := by decide +kernel
theorem dX5_which_54 : decode cX5_which 54 = .ok (.ireturn, 1) := by decide +kernel
set_option maxRecDepth 20000 in
theorem ggX5_kinds_X0_isCourtier : GoodIn wsX5_kinds wsX0_isCourtier := goodIn_r _ [8, 9, 110, 111, 112, 113, 114, 115, 116, 117, 118] (by decide +kernel) (by decide +kernel)
set_option maxRecDepth 20000 in
theorem gX5_kinds_X0_isCourtier : GoodIn wsX5_kinds (wsV RX5 97 RX0 yX0_isCourtier wsX0_isCourtier) := goodIn_app (goodIn_of _ (by decide +kernel)) ggX5_kinds_X0_isCourtier
set_option maxRecDepth 20000 in
theorem ggX5_kinds_X0_isNews : GoodIn wsX5_kinds wsX0_isNews := goodIn_r _ [13, 14, 110, 111, 112, 113, 114, 115, 116, 117, 118] (by decide +kernel) (by decide +kernel)
set_option maxRecDepth 20000 in
theorem gX5_kinds_X0_isNews : GoodIn wsX5_kinds (wsV RX5 122 RX0 yX0_isNews wsX0_isNews) := goodIn_app (goodIn_of _ (by decide +kernel)) ggX5_kinds_X0_isNews
set_option maxRecDepth 20000 in
theorem ggX5_kinds_X0_copyFrom : GoodIn wsX5_kinds wsX0_copyFrom := goodIn_r _ [18, 19, 20, 21, 22, 23, 24, 25, 26, 27, 28, 9, 14, 29, 110, 111, 112, 113, 114, 115, 116, 117, 118] (by decide +kernel) (by decide +kernel)
set_option maxRecDepth 20000 in
theorem gX5_kinds_X0_copyFrom : GoodIn wsX5_kinds (wsV RX5 91 RX0 yX0_copyFrom wsX0_copyFrom) := goodIn_app (goodIn_of _ (by decide +kernel)) ggX5_kinds_X0_copyFrom
set_option maxRecDepth 20000 in
theorem ggX5_kinds_X5_put : GoodIn wsX5_kinds wsX5_put := goodIn_r _ [33] (by decide +kernel) (by decide +kernel)
set_option maxRecDepth 20000 in
theorem gX5_kinds_X5_put : GoodIn wsX5_kinds (va_wsS RX5 154 yX5_put wsX5_put) := goodIn_app (goodIn_of _ (by decide +kernel)) ggX5_kinds_X5_put
set_option maxRecDepth 20000 in
theorem ggX5_kinds_X3_wouldBeSo : GoodIn wsX5_kinds wsX3_wouldBeSo := goodIn_r _ [38, 39, 32, 40, 41, 42, 43, 37, 44, 45, 46, 47, 48, 49, 50, 7, 51, 52, 53, 54, 55, 27, 56, 57, 58, 59, 9, 60, 61, 62, 63, 28, 64, 65, 66, 67, 25, 68, 69, 70, 71, 72, 73, 26, 31, 33, 74, 75, 76, 77, 78, 79, 80, 81, 82, 83, 84, 85, 86, 87, 88, 89, 24, 19, 90, 91, 92, 93, 94, 95, 96, 97, 98, 99, 100, 101, 110, 111, 112, 113, 114, 115, 116, 117, 118, 119, 120, 121] (by decide +kernel) (by decide +kernel)
set_option maxRecDepth 20000 in
theorem gX5_kinds_X3_wouldBeSo : GoodIn wsX5_kinds (wsV RX5 199 RX3 yX3_wouldBeSo wsX3_wouldBeSo) := goodIn_app (goodIn_of _ (by decide +kernel)) ggX5_kinds_X3_wouldBeSo
theorem dX5_kinds_0 : decode cX5_kinds 0 = .ok (.aload_n 0, 1) := by decide +kernel
theorem dX5_kinds_1 : decode cX5_kinds 1 = .ok (.getfield 19, 3) := by decide +kernel
theorem dX5_kinds_4 : decode cX5_kinds 4 = .ok (.iload_n 1, 1) := by decide +kernel
theorem dX5_kinds_5 : decode cX5_kinds 5 = .ok (.invokevirtual 97, 3) := by decide +kernel
theorem dX5_kinds_8 : decode cX5_kinds 8 = .ok (.ifCond .eq 14, 3) := by decide +kernel
theorem dX5_kinds_11 : decode cX5_kinds 11 = .ok (.aload_n 0, 1) := by decide +kernel
theorem dX5_kinds_12 : decode cX5_kinds 12 = .ok (.getfield 19, 3) := by decide +kernel
theorem dX5_kinds_15 : decode cX5_kinds 15 = .ok (.iload_n 2, 1) := by decide +kernel
theorem dX5_kinds_16 : decode cX5_kinds 16 = .ok (.invokevirtual 122, 3) := by decide +kernel
theorem dX5_kinds_19 : decode cX5_kinds 19 = .ok (.ifCond .ne 5, 3) := by decide +kernel
theorem dX5_kinds_22 : decode cX5_kinds 22 = .ok (.iconst (-1), 1) := by decide +kernel
theorem dX5_kinds_23 : decode cX5_kinds 23 = .ok (.ireturn, 1) := by decide +kernel
theorem dX5_kinds_24 : decode cX5_kinds 24 = .ok (.iconst 0, 1) := by decide +kernel
theorem dX5_kinds_25 : decode cX5_kinds 25 = .ok (.istore_n 3, 1) := by decide +kernel
theorem dX5_kinds_26 : decode cX5_kinds 26 = .ok (.iconst 0, 1) := by decide +kernel
theorem dX5_kinds_27 : decode cX5_kinds 27 = .ok (.istore 4, 2) := by decide +kernel
theorem dX5_kinds_29 : decode cX5_kinds 29 = .ok (.iload 4, 2) := by decide +kernel
theorem dX5_kinds_31 : decode cX5_kinds 31 = .ok (.iconst 3, 1) := by decide +kernel
theorem dX5_kinds_32 : decode cX5_kinds 32 = .ok (.if_icmp .gt 55, 3) := by decide +kernel
theorem dX5_kinds_35 : decode cX5_kinds 35 = .ok (.aload_n 0, 1) := by decide +kernel
theorem dX5_kinds_36 : decode cX5_kinds 36 = .ok (.getfield 23, 3) := by decide +kernel
theorem dX5_kinds_39 : decode cX5_kinds 39 = .ok (.aload_n 0, 1) := by decide +kernel
theorem dX5_kinds_40 : decode cX5_kinds 40 = .ok (.getfield 19, 3) := by decide +kernel
theorem dX5_kinds_43 : decode cX5_kinds 43 = .ok (.invokevirtual 91, 3) := by decide +kernel
theorem dX5_kinds_46 : decode cX5_kinds 46 = .ok (.aload_n 0, 1) := by decide +kernel
theorem dX5_kinds_47 : decode cX5_kinds 47 = .ok (.getfield 23, 3) := by decide +kernel
theorem dX5_kinds_50 : decode cX5_kinds 50 = .ok (.getfield 101, 3) := by decide +kernel
theorem dX5_kinds_53 : decode cX5_kinds 53 = .ok (.iload_n 1, 1) := by decide +kernel
theorem dX5_kinds_54 : decode cX5_kinds 54 = .ok (.iload 4, 2) := by decide +kernel
theorem dX5_kinds_56 : decode cX5_kinds 56 = .ok (.invokestatic 154, 3) := by decide +kernel
theorem dX5_kinds_59 : decode cX5_kinds 59 = .ok (.aload_n 0, 1) := by decide +kernel
theorem dX5_kinds_60 : decode cX5_kinds 60 = .ok (.getfield 41, 3) := by decide +kernel
theorem dX5_kinds_63 : decode cX5_kinds 63 = .ok (.aload_n 0, 1) := by decide +kernel
theorem dX5_kinds_64 : decode cX5_kinds 64 = .ok (.getfield 23, 3) := by decide +kernel
theorem dX5_kinds_67 : decode cX5_kinds 67 = .ok (.iload_n 2, 1) := by decide +kernel
theorem dX5_kinds_68 : decode cX5_kinds 68 = .ok (.invokevirtual 199, 3) := by decide +kernel
theorem dX5_kinds_71 : decode cX5_kinds 71 = .ok (.ifCond .eq 10, 3) := by decide +kernel
theorem dX5_kinds_74 : decode cX5_kinds 74 = .ok (.iload_n 3, 1) := by decide +kernel
theorem dX5_kinds_75 : decode cX5_kinds 75 = .ok (.iconst 1, 1) := by decide +kernel
theorem dX5_kinds_76 : decode cX5_kinds 76 = .ok (.iload 4, 2) := by decide +kernel
theorem dX5_kinds_78 : decode cX5_kinds 78 = .ok (.ishl, 1) := by decide +kernel
theorem dX5_kinds_79 : decode cX5_kinds 79 = .ok (.ior, 1) := by decide +kernel
theorem dX5_kinds_80 : decode cX5_kinds 80 = .ok (.istore_n 3, 1) := by decide +kernel
theorem dX5_kinds_81 : decode cX5_kinds 81 = .ok (.iinc 4 1, 3) := by decide +kernel
theorem dX5_kinds_84 : decode cX5_kinds 84 = .ok (.goto (-55), 3) := by decide +kernel
theorem dX5_kinds_87 : decode cX5_kinds 87 = .ok (.iload_n 3, 1) := by decide +kernel
theorem dX5_kinds_88 : decode cX5_kinds 88 = .ok (.ireturn, 1) := by decide +kernel
set_option maxRecDepth 20000 in
theorem ggX5_tongues_X0_isNews : GoodIn wsX5_tongues wsX0_isNews := goodIn_r _ [7, 8, 135, 136, 137, 138, 139, 140, 141, 142, 143] (by decide +kernel) (by decide +kernel)
set_option maxRecDepth 20000 in
theorem gX5_tongues_X0_isNews : GoodIn wsX5_tongues (wsV RX5 122 RX0 yX0_isNews wsX0_isNews) := goodIn_app (goodIn_of _ (by decide +kernel)) ggX5_tongues_X0_isNews
set_option maxRecDepth 20000 in
theorem ggX5_tongues_X5_isIn : GoodIn wsX5_tongues wsX5_isIn := goodIn_r _ [12] (by decide +kernel) (by decide +kernel)
set_option maxRecDepth 20000 in
theorem gX5_tongues_X5_isIn : GoodIn wsX5_tongues (va_wsS RX5 78 yX5_isIn wsX5_isIn) := goodIn_app (goodIn_of _ (by decide +kernel)) ggX5_tongues_X5_isIn
set_option maxRecDepth 20000 in
theorem ggX5_tongues_X2_clear : GoodIn wsX5_tongues wsX2_clear := goodIn_r _ [17, 18, 144, 145] (by decide +kernel) (by decide +kernel)
set_option maxRecDepth 20000 in
theorem gX5_tongues_X2_clear : GoodIn wsX5_tongues (wsV RX5 95 RX2 yX2_clear wsX2_clear) := goodIn_app (goodIn_of _ (by decide +kernel)) ggX5_tongues_X2_clear
set_option maxRecDepth 20000 in
theorem ggX5_tongues_X2_push : GoodIn wsX5_tongues wsX2_push := goodIn_r _ [22, 18, 23, 24, 25, 26, 16, 27, 28, 29, 30, 31, 32, 33, 34, 6, 35, 36, 37, 38, 39, 40, 41, 42, 43, 44, 45, 46, 8, 47, 144, 145, 135, 136, 137, 138, 139, 140, 141, 142, 143] (by decide +kernel) (by decide +kernel)
set_option maxRecDepth 20000 in
theorem gX5_tongues_X2_push : GoodIn wsX5_tongues (wsV RX5 138 RX2 yX2_push wsX2_push) := goodIn_app (goodIn_of _ (by decide +kernel)) ggX5_tongues_X2_push
set_option maxRecDepth 20000 in
theorem ggX5_tongues_X5_chances : GoodIn wsX5_tongues wsX5_chances := goodIn_r _ [50, 51, 29, 30, 16, 31, 18, 23, 52, 53, 54, 6, 55, 44, 56, 11, 57, 19, 20, 21, 22, 24, 25, 26, 27, 28, 32, 33, 34, 35, 36, 37, 38, 39, 40, 41, 42, 43, 45, 46, 8, 47, 58, 59, 60, 61, 62, 63, 64, 65, 66, 67, 68, 69, 70, 71, 72, 73, 74, 75, 76, 77, 78, 79, 80, 81, 82, 83, 84, 85, 86, 87, 88, 89, 90, 91, 92, 93, 94, 95, 96, 97, 98, 99, 100, 101, 102, 103, 104, 105, 106, 107, 108, 109, 110, 111, 112, 113, 114, 115, 116, 117, 118, 48, 49, 119, 120, 121, 122, 123, 144, 145, 135, 136, 137, 138, 139, 140, 141, 142, 143] (by decide +kernel) (by decide +kernel)
set_option maxRecDepth 20000 in
theorem gX5_tongues_X5_chances : GoodIn wsX5_tongues (va_wsS RX5 203 yX5_chances wsX5_chances) := goodIn_app (goodIn_of _ (by decide +kernel)) ggX5_tongues_X5_chances
set_option maxRecDepth 20000 in
theorem ggX5_tongues_X5_commonDivisor : GoodIn wsX5_tongues wsX5_commonDivisor := goodIn_r _ [126] (by decide +kernel) (by decide +kernel)
set_option maxRecDepth 20000 in
theorem gX5_tongues_X5_commonDivisor : GoodIn wsX5_tongues (va_wsS RX5 207 yX5_commonDivisor wsX5_commonDivisor) := goodIn_app (goodIn_of _ (by decide +kernel)) ggX5_tongues_X5_commonDivisor
theorem dX5_tongues_0 : decode cX5_tongues 0 = .ok (.aload_n 0, 1) := by decide +kernel
theorem dX5_tongues_1 : decode cX5_tongues 1 = .ok (.getfield 19, 3) := by decide +kernel
theorem dX5_tongues_4 : decode cX5_tongues 4 = .ok (.iload_n 1, 1) := by decide +kernel
theorem dX5_tongues_5 : decode cX5_tongues 5 = .ok (.invokevirtual 122, 3) := by decide +kernel
theorem dX5_tongues_8 : decode cX5_tongues 8 = .ok (.ifCond .eq 33, 3) := by decide +kernel
theorem dX5_tongues_11 : decode cX5_tongues 11 = .ok (.iload_n 2, 1) := by decide +kernel
theorem dX5_tongues_12 : decode cX5_tongues 12 = .ok (.iconst 0, 1) := by decide +kernel
theorem dX5_tongues_13 : decode cX5_tongues 13 = .ok (.bipush 8, 2) := by decide +kernel
theorem dX5_tongues_15 : decode cX5_tongues 15 = .ok (.invokestatic 78, 3) := by decide +kernel
theorem dX5_tongues_18 : decode cX5_tongues 18 = .ok (.ifCond .eq 23, 3) := by decide +kernel
theorem dX5_tongues_21 : decode cX5_tongues 21 = .ok (.iload_n 3, 1) := by decide +kernel
theorem dX5_tongues_22 : decode cX5_tongues 22 = .ok (.iconst 0, 1) := by decide +kernel
theorem dX5_tongues_23 : decode cX5_tongues 23 = .ok (.bipush 10, 2) := by decide +kernel
theorem dX5_tongues_25 : decode cX5_tongues 25 = .ok (.invokestatic 78, 3) := by decide +kernel
theorem dX5_tongues_28 : decode cX5_tongues 28 = .ok (.ifCond .eq 13, 3) := by decide +kernel
theorem dX5_tongues_31 : decode cX5_tongues 31 = .ok (.iload 4, 2) := by decide +kernel
theorem dX5_tongues_33 : decode cX5_tongues 33 = .ok (.iconst 0, 1) := by decide +kernel
theorem dX5_tongues_34 : decode cX5_tongues 34 = .ok (.iconst 1, 1) := by decide +kernel
theorem dX5_tongues_35 : decode cX5_tongues 35 = .ok (.invokestatic 78, 3) := by decide +kernel
theorem dX5_tongues_38 : decode cX5_tongues 38 = .ok (.ifCond .ne 5, 3) := by decide +kernel
theorem dX5_tongues_41 : decode cX5_tongues 41 = .ok (.iconst (-1), 1) := by decide +kernel
theorem dX5_tongues_42 : decode cX5_tongues 42 = .ok (.ireturn, 1) := by decide +kernel
theorem dX5_tongues_43 : decode cX5_tongues 43 = .ok (.aload_n 0, 1) := by decide +kernel
theorem dX5_tongues_44 : decode cX5_tongues 44 = .ok (.getfield 52, 3) := by decide +kernel
theorem dX5_tongues_47 : decode cX5_tongues 47 = .ok (.invokevirtual 95, 3) := by decide +kernel
theorem dX5_tongues_50 : decode cX5_tongues 50 = .ok (.aload_n 0, 1) := by decide +kernel
theorem dX5_tongues_51 : decode cX5_tongues 51 = .ok (.getfield 52, 3) := by decide +kernel
theorem dX5_tongues_54 : decode cX5_tongues 54 = .ok (.aload_n 0, 1) := by decide +kernel
theorem dX5_tongues_55 : decode cX5_tongues 55 = .ok (.getfield 19, 3) := by decide +kernel
theorem dX5_tongues_58 : decode cX5_tongues 58 = .ok (.invokevirtual 138, 3) := by decide +kernel
theorem dX5_tongues_61 : decode cX5_tongues 61 = .ok (.aload_n 0, 1) := by decide +kernel
theorem dX5_tongues_62 : decode cX5_tongues 62 = .ok (.getfield 52, 3) := by decide +kernel
theorem dX5_tongues_65 : decode cX5_tongues 65 = .ok (.iload_n 1, 1) := by decide +kernel
theorem dX5_tongues_66 : decode cX5_tongues 66 = .ok (.iload_n 2, 1) := by decide +kernel
theorem dX5_tongues_67 : decode cX5_tongues 67 = .ok (.iload_n 3, 1) := by decide +kernel
theorem dX5_tongues_68 : decode cX5_tongues 68 = .ok (.invokestatic 203, 3) := by decide +kernel
theorem dX5_tongues_71 : decode cX5_tongues 71 = .ok (.istore 5, 2) := by decide +kernel
theorem dX5_tongues_73 : decode cX5_tongues 73 = .ok (.iconst 1, 1) := by decide +kernel
theorem dX5_tongues_74 : decode cX5_tongues 74 = .ok (.istore 6, 2) := by decide +kernel
theorem dX5_tongues_76 : decode cX5_tongues 76 = .ok (.iconst 0, 1) := by decide +kernel
theorem dX5_tongues_77 : decode cX5_tongues 77 = .ok (.istore 7, 2) := by decide +kernel
theorem dX5_tongues_79 : decode cX5_tongues 79 = .ok (.iload 7, 2) := by decide +kernel
theorem dX5_tongues_81 : decode cX5_tongues 81 = .ok (.iload_n 2, 1) := by decide +kernel
theorem dX5_tongues_82 : decode cX5_tongues 82 = .ok (.if_icmp .ge 16, 3) := by decide +kernel
theorem dX5_tongues_85 : decode cX5_tongues 85 = .ok (.iload 6, 2) := by decide +kernel
theorem dX5_tongues_87 : decode cX5_tongues 87 = .ok (.bipush 10, 2) := by decide +kernel
theorem dX5_tongues_89 : decode cX5_tongues 89 = .ok (.imul, 1) := by decide +kernel
theorem dX5_tongues_90 : decode cX5_tongues 90 = .ok (.istore 6, 2) := by decide +kernel
theorem dX5_tongues_92 : decode cX5_tongues 92 = .ok (.iinc 7 1, 3) := by decide +kernel
theorem dX5_tongues_95 : decode cX5_tongues 95 = .ok (.goto (-16), 3) := by decide +kernel
theorem dX5_tongues_98 : decode cX5_tongues 98 = .ok (.iload 5, 2) := by decide +kernel
theorem dX5_tongues_100 : decode cX5_tongues 100 = .ok (.iload 6, 2) := by decide +kernel
theorem dX5_tongues_102 : decode cX5_tongues 102 = .ok (.invokestatic 207, 3) := by decide +kernel
theorem dX5_tongues_105 : decode cX5_tongues 105 = .ok (.istore 7, 2) := by decide +kernel
theorem dX5_tongues_107 : decode cX5_tongues 107 = .ok (.iload 4, 2) := by decide +kernel
theorem dX5_tongues_109 : decode cX5_tongues 109 = .ok (.ifCond .ne 8, 3) := by decide +kernel
theorem dX5_tongues_112 : decode cX5_tongues 112 = .ok (.iload 5, 2) := by decide +kernel
theorem dX5_tongues_114 : decode cX5_tongues 114 = .ok (.goto 5, 3) := by decide +kernel
theorem dX5_tongues_117 : decode cX5_tongues 117 = .ok (.iload 6, 2) := by decide +kernel
theorem dX5_tongues_119 : decode cX5_tongues 119 = .ok (.iload 7, 2) := by decide +kernel
theorem dX5_tongues_121 : decode cX5_tongues 121 = .ok (.iconst 1, 1) := by decide +kernel
theorem dX5_tongues_122 : decode cX5_tongues 122 = .ok (.if_icmp .ge 7, 3) := by decide +kernel
theorem dX5_tongues_125 : decode cX5_tongues 125 = .ok (.iconst 1, 1) := by decide +kernel
theorem dX5_tongues_126 : decode cX5_tongues 126 = .ok (.goto 5, 3) := by decide +kernel
theorem dX5_tongues_129 : decode cX5_tongues 129 = .ok (.iload 7, 2) := by decide +kernel
theorem dX5_tongues_131 : decode cX5_tongues 131 = .ok (.idiv, 1) := by decide +kernel
theorem dX5_tongues_132 : decode cX5_tongues 132 = .ok (.ireturn, 1) := by decide +kernel
set_option maxRecDepth 20000 in
theorem ggX5_reign_X5_isIn : GoodIn wsX5_reign wsX5_isIn := goodIn_r _ [6] (by decide +kernel) (by decide +kernel)
set_option maxRecDepth 20000 in
theorem gX5_reign_X5_isIn : GoodIn wsX5_reign (va_wsS RX5 78 yX5_isIn wsX5_isIn) := goodIn_app (goodIn_of _ (by decide +kernel)) ggX5_reign_X5_isIn
set_option maxRecDepth 20000 in
theorem ggX5_reign_X0_copyFrom : GoodIn wsX5_reign wsX0_copyFrom := goodIn_r _ [11, 12, 13, 14, 15, 16, 17, 18, 19, 20, 21, 22, 23, 24, 119, 120, 121, 122, 123, 124, 125, 126, 127] (by decide +kernel) (by decide +kernel)
set_option maxRecDepth 20000 in
theorem gX5_reign_X0_copyFrom : GoodIn wsX5_reign (wsV RX5 91 RX0 yX0_copyFrom wsX0_copyFrom) := goodIn_app (goodIn_of _ (by decide +kernel)) ggX5_reign_X0_copyFrom
set_option maxRecDepth 20000 in
theorem ggX5_reign_X5_draw : GoodIn wsX5_reign wsX5_draw := goodIn_r _ [27, 28, 29, 30] (by decide +kernel) (by decide +kernel)
set_option maxRecDepth 20000 in
theorem gX5_reign_X5_draw : GoodIn wsX5_reign (va_wsS RX5 210 yX5_draw wsX5_draw) := goodIn_app (goodIn_of _ (by decide +kernel)) ggX5_reign_X5_draw
set_option maxRecDepth 20000 in
theorem ggX5_reign_X0_obey : GoodIn wsX5_reign wsX0_obey := goodIn_r _ [34, 22, 23, 20, 35, 5, 36, 37, 38, 39, 10, 40, 21, 41, 42, 43, 44, 45, 46, 47, 48, 49, 50, 51, 52, 53, 54, 55, 56, 57, 58, 59, 60, 61, 62, 63, 64, 65, 18, 19, 119, 120, 121, 122, 123, 124, 125, 126, 127] (by decide +kernel) (by decide +kernel)
set_option maxRecDepth 20000 in
theorem gX5_reign_X0_obey : GoodIn wsX5_reign (wsV RX5 213 RX0 yX0_obey wsX0_obey) := goodIn_app (goodIn_of _ (by decide +kernel)) ggX5_reign_X0_obey
set_option maxRecDepth 20000 in
theorem ggX5_reign_X0_live : GoodIn wsX5_reign wsX0_live := goodIn_r _ [69, 23, 24, 70, 71, 72, 10, 73, 58, 59, 60, 61, 20, 41, 5, 42, 74, 75, 76, 77, 22, 37, 38, 39, 40, 21, 78, 79, 80, 81, 18, 82, 83, 84, 85, 86, 87, 19, 56, 57, 88, 89, 90, 91, 92, 93, 47, 94, 95, 96, 97, 98, 99, 100, 101, 102, 17, 12, 43, 44, 45, 46, 48, 49, 50, 51, 52, 53, 54, 55, 119, 120, 121, 122, 123, 124, 125, 126, 127] (by decide +kernel) (by decide +kernel)
set_option maxRecDepth 20000 in
theorem gX5_reign_X0_live : GoodIn wsX5_reign (wsV RX5 141 RX0 yX0_live wsX0_live) := goodIn_app (goodIn_of _ (by decide +kernel)) ggX5_reign_X0_live
set_option maxRecDepth 20000 in
theorem ggX5_reign_X0_knownInAll : GoodIn wsX5_reign wsX0_knownInAll := goodIn_r _ [106, 23, 58, 59, 60, 10, 61, 20, 41, 5, 42, 119, 120, 121, 122, 123, 124, 125, 126, 127] (by decide +kernel) (by decide +kernel)
set_option maxRecDepth 20000 in
theorem gX5_reign_X0_knownInAll : GoodIn wsX5_reign (wsV RX5 144 RX0 yX0_knownInAll wsX0_knownInAll) := goodIn_app (goodIn_of _ (by decide +kernel)) ggX5_reign_X0_knownInAll
set_option maxRecDepth 20000 in
theorem ggX5_reign_X0_beliefsInAll : GoodIn wsX5_reign wsX0_beliefsInAll := goodIn_r _ [110, 23, 22, 37, 38, 39, 10, 40, 21, 41, 5, 42, 119, 120, 121, 122, 123, 124, 125, 126, 127] (by decide +kernel) (by decide +kernel)
set_option maxRecDepth 20000 in
theorem gX5_reign_X0_beliefsInAll : GoodIn wsX5_reign (wsV RX5 216 RX0 yX0_beliefsInAll wsX0_beliefsInAll) := goodIn_app (goodIn_of _ (by decide +kernel)) ggX5_reign_X0_beliefsInAll
theorem dX5_reign_0 : decode cX5_reign 0 = .ok (.iload_n 1, 1) := by decide +kernel
theorem dX5_reign_1 : decode cX5_reign 1 = .ok (.iconst 0, 1) := by decide +kernel
theorem dX5_reign_2 : decode cX5_reign 2 = .ok (.sipush 9999, 3) := by decide +kernel
theorem dX5_reign_5 : decode cX5_reign 5 = .ok (.invokestatic 78, 3) := by decide +kernel
theorem dX5_reign_8 : decode cX5_reign 8 = .ok (.ifCond .eq 22, 3) := by decide +kernel
theorem dX5_reign_11 : decode cX5_reign 11 = .ok (.iload_n 2, 1) := by decide +kernel
theorem dX5_reign_12 : decode cX5_reign 12 = .ok (.iconst 1, 1) := by decide +kernel
theorem dX5_reign_13 : decode cX5_reign 13 = .ok (.bipush 60, 2) := by decide +kernel
theorem dX5_reign_15 : decode cX5_reign 15 = .ok (.invokestatic 78, 3) := by decide +kernel
theorem dX5_reign_18 : decode cX5_reign 18 = .ok (.ifCond .eq 12, 3) := by decide +kernel
theorem dX5_reign_21 : decode cX5_reign 21 = .ok (.iload_n 3, 1) := by decide +kernel
theorem dX5_reign_22 : decode cX5_reign 22 = .ok (.iconst 0, 1) := by decide +kernel
theorem dX5_reign_23 : decode cX5_reign 23 = .ok (.iconst 1, 1) := by decide +kernel
theorem dX5_reign_24 : decode cX5_reign 24 = .ok (.invokestatic 78, 3) := by decide +kernel
theorem dX5_reign_27 : decode cX5_reign 27 = .ok (.ifCond .ne 5, 3) := by decide +kernel
theorem dX5_reign_30 : decode cX5_reign 30 = .ok (.iconst (-1), 1) := by decide +kernel
theorem dX5_reign_31 : decode cX5_reign 31 = .ok (.ireturn, 1) := by decide +kernel
theorem dX5_reign_32 : decode cX5_reign 32 = .ok (.aload_n 0, 1) := by decide +kernel
theorem dX5_reign_33 : decode cX5_reign 33 = .ok (.getfield 23, 3) := by decide +kernel
theorem dX5_reign_36 : decode cX5_reign 36 = .ok (.aload_n 0, 1) := by decide +kernel
theorem dX5_reign_37 : decode cX5_reign 37 = .ok (.getfield 19, 3) := by decide +kernel
theorem dX5_reign_40 : decode cX5_reign 40 = .ok (.invokevirtual 91, 3) := by decide +kernel
theorem dX5_reign_43 : decode cX5_reign 43 = .ok (.iconst 0, 1) := by decide +kernel
theorem dX5_reign_44 : decode cX5_reign 44 = .ok (.istore 4, 2) := by decide +kernel
theorem dX5_reign_46 : decode cX5_reign 46 = .ok (.iload 4, 2) := by decide +kernel
theorem dX5_reign_48 : decode cX5_reign 48 = .ok (.iload_n 2, 1) := by decide +kernel
theorem dX5_reign_49 : decode cX5_reign 49 = .ok (.if_icmp .ge 29, 3) := by decide +kernel
theorem dX5_reign_52 : decode cX5_reign 52 = .ok (.aload_n 0, 1) := by decide +kernel
theorem dX5_reign_53 : decode cX5_reign 53 = .ok (.getfield 23, 3) := by decide +kernel
theorem dX5_reign_56 : decode cX5_reign 56 = .ok (.iload_n 1, 1) := by decide +kernel
theorem dX5_reign_57 : decode cX5_reign 57 = .ok (.iload 4, 2) := by decide +kernel
theorem dX5_reign_59 : decode cX5_reign 59 = .ok (.invokestatic 210, 3) := by decide +kernel
theorem dX5_reign_62 : decode cX5_reign 62 = .ok (.invokevirtual 213, 3) := by decide +kernel
theorem dX5_reign_65 : decode cX5_reign 65 = .ok (.aload_n 0, 1) := by decide +kernel
theorem dX5_reign_66 : decode cX5_reign 66 = .ok (.getfield 23, 3) := by decide +kernel
theorem dX5_reign_69 : decode cX5_reign 69 = .ok (.invokevirtual 141, 3) := by decide +kernel
theorem dX5_reign_72 : decode cX5_reign 72 = .ok (.iinc 4 1, 3) := by decide +kernel
theorem dX5_reign_75 : decode cX5_reign 75 = .ok (.goto (-29), 3) := by decide +kernel
theorem dX5_reign_78 : decode cX5_reign 78 = .ok (.iload_n 3, 1) := by decide +kernel
theorem dX5_reign_79 : decode cX5_reign 79 = .ok (.ifCond .ne 13, 3) := by decide +kernel
theorem dX5_reign_82 : decode cX5_reign 82 = .ok (.aload_n 0, 1) := by decide +kernel
theorem dX5_reign_83 : decode cX5_reign 83 = .ok (.getfield 23, 3) := by decide +kernel
theorem dX5_reign_86 : decode cX5_reign 86 = .ok (.invokevirtual 144, 3) := by decide +kernel
theorem dX5_reign_89 : decode cX5_reign 89 = .ok (.goto 10, 3) := by decide +kernel
theorem dX5_reign_92 : decode cX5_reign 92 = .ok (.aload_n 0, 1) := by decide +kernel
theorem dX5_reign_93 : decode cX5_reign 93 = .ok (.getfield 23, 3) := by decide +kernel
theorem dX5_reign_96 : decode cX5_reign 96 = .ok (.invokevirtual 216, 3) := by decide +kernel
theorem dX5_reign_99 : decode cX5_reign 99 = .ok (.ireturn, 1) := by decide +kernel
set_option maxRecDepth 20000 in
theorem ggX5_keep_X2_push : GoodIn wsX5_keep wsX2_push := goodIn_r _ [7, 8, 9, 10, 11, 12, 6, 13, 14, 15, 16, 17, 18, 19, 20, 21, 22, 23, 24, 25, 26, 27, 28, 29, 30, 31, 32, 33, 34, 35, 44, 45, 46, 47, 48, 49, 50, 51, 52, 53, 54] (by decide +kernel) (by decide +kernel)
set_option maxRecDepth 20000 in
theorem gX5_keep_X2_push : GoodIn wsX5_keep (wsV RX5 138 RX2 yX2_push wsX2_push) := goodIn_app (goodIn_of _ (by decide +kernel)) ggX5_keep_X2_push
theorem dX5_keep_0 : decode cX5_keep 0 = .ok (.aload_n 0, 1) := by decide +kernel
theorem dX5_keep_1 : decode cX5_keep 1 = .ok (.getfield 35, 3) := by decide +kernel
theorem dX5_keep_4 : decode cX5_keep 4 = .ok (.getfield 166, 3) := by decide +kernel
theorem dX5_keep_7 : decode cX5_keep 7 = .ok (.iconst 2, 1) := by decide +kernel
theorem dX5_keep_8 : decode cX5_keep 8 = .ok (.if_icmp .lt 6, 3) := by decide +kernel
theorem dX5_keep_11 : decode cX5_keep 11 = .ok (.bipush (-3), 2) := by decide +kernel
theorem dX5_keep_13 : decode cX5_keep 13 = .ok (.ireturn, 1) := by decide +kernel
theorem dX5_keep_14 : decode cX5_keep 14 = .ok (.aload_n 0, 1) := by decide +kernel
theorem dX5_keep_15 : decode cX5_keep 15 = .ok (.getfield 35, 3) := by decide +kernel
theorem dX5_keep_18 : decode cX5_keep 18 = .ok (.aload_n 0, 1) := by decide +kernel
theorem dX5_keep_19 : decode cX5_keep 19 = .ok (.getfield 19, 3) := by decide +kernel
theorem dX5_keep_22 : decode cX5_keep 22 = .ok (.invokevirtual 138, 3) := by decide +kernel
theorem dX5_keep_25 : decode cX5_keep 25 = .ok (.aload_n 0, 1) := by decide +kernel
theorem dX5_keep_26 : decode cX5_keep 26 = .ok (.getfield 35, 3) := by decide +kernel
theorem dX5_keep_29 : decode cX5_keep 29 = .ok (.getfield 166, 3) := by decide +kernel
theorem dX5_keep_32 : decode cX5_keep 32 = .ok (.ireturn, 1) := by decide +kernel
set_option maxRecDepth 20000 in
theorem ggX5_back_X2_pullInto : GoodIn wsX5_back wsX2_pullInto := goodIn_r _ [8, 9, 10, 11, 12, 7, 13, 14, 15, 16, 17, 18, 19, 20, 21, 22, 23, 24, 25, 26, 27, 28, 29, 30, 31, 32, 45, 46, 47, 48, 49, 50, 51, 52, 53, 54, 55] (by decide +kernel) (by decide +kernel)
set_option maxRecDepth 20000 in
theorem gX5_back_X2_pullInto : GoodIn wsX5_back (wsV RX5 162 RX2 yX2_pullInto wsX2_pullInto) := goodIn_app (goodIn_of _ (by decide +kernel)) ggX5_back_X2_pullInto
set_option maxRecDepth 20000 in
theorem ggX5_back_X2_clear : GoodIn wsX5_back wsX2_clear := goodIn_r _ [36, 9, 45, 46] (by decide +kernel) (by decide +kernel)
set_option maxRecDepth 20000 in
theorem gX5_back_X2_clear : GoodIn wsX5_back (wsV RX5 95 RX2 yX2_clear wsX2_clear) := goodIn_app (goodIn_of _ (by decide +kernel)) ggX5_back_X2_clear
theorem dX5_back_0 : decode cX5_back 0 = .ok (.aload_n 0, 1) := by decide +kernel
theorem dX5_back_1 : decode cX5_back 1 = .ok (.getfield 35, 3) := by decide +kernel
theorem dX5_back_4 : decode cX5_back 4 = .ok (.aload_n 0, 1) := by decide +kernel
theorem dX5_back_5 : decode cX5_back 5 = .ok (.getfield 19, 3) := by decide +kernel
theorem dX5_back_8 : decode cX5_back 8 = .ok (.invokevirtual 162, 3) := by decide +kernel
theorem dX5_back_11 : decode cX5_back 11 = .ok (.ifCond .ne 6, 3) := by decide +kernel
theorem dX5_back_14 : decode cX5_back 14 = .ok (.bipush (-2), 2) := by decide +kernel
theorem dX5_back_16 : decode cX5_back 16 = .ok (.ireturn, 1) := by decide +kernel
theorem dX5_back_17 : decode cX5_back 17 = .ok (.aload_n 0, 1) := by decide +kernel
theorem dX5_back_18 : decode cX5_back 18 = .ok (.getfield 31, 3) := by decide +kernel
theorem dX5_back_21 : decode cX5_back 21 = .ok (.invokevirtual 95, 3) := by decide +kernel
theorem dX5_back_24 : decode cX5_back 24 = .ok (.aload_n 0, 1) := by decide +kernel
theorem dX5_back_25 : decode cX5_back 25 = .ok (.getfield 35, 3) := by decide +kernel
theorem dX5_back_28 : decode cX5_back 28 = .ok (.getfield 166, 3) := by decide +kernel
theorem dX5_back_31 : decode cX5_back 31 = .ok (.ireturn, 1) := by decide +kernel
set_option maxRecDepth 20000 in
theorem ggX5_count_X0_knownInAll : GoodIn wsX5_count wsX0_knownInAll := goodIn_r _ [10, 11, 12, 13, 14, 9, 15, 16, 17, 18, 19, 38, 39, 40, 41, 42, 43, 44, 45, 46] (by decide +kernel) (by decide +kernel)
set_option maxRecDepth 20000 in
theorem gX5_count_X0_knownInAll : GoodIn wsX5_count (wsV RX5 144 RX0 yX0_knownInAll wsX0_knownInAll) := goodIn_app (goodIn_of _ (by decide +kernel)) ggX5_count_X0_knownInAll
set_option maxRecDepth 20000 in
theorem ggX5_count_X0_beliefsInAll : GoodIn wsX5_count wsX0_beliefsInAll := goodIn_r _ [23, 11, 24, 25, 26, 27, 9, 28, 29, 17, 18, 19, 38, 39, 40, 41, 42, 43, 44, 45, 46] (by decide +kernel) (by decide +kernel)
set_option maxRecDepth 20000 in
theorem gX5_count_X0_beliefsInAll : GoodIn wsX5_count (wsV RX5 216 RX0 yX0_beliefsInAll wsX0_beliefsInAll) := goodIn_app (goodIn_of _ (by decide +kernel)) ggX5_count_X0_beliefsInAll
theorem dX5_count_0 : decode cX5_count 0 = .ok (.iload_n 1, 1) := by decide +kernel
theorem dX5_count_1 : decode cX5_count 1 = .ok (.tableswitch 123 0 8 #[51, 59, 67, 75, 83, 91, 99, 107, 115], 51) := by decide +kernel
theorem dX5_count_52 : decode cX5_count 52 = .ok (.aload_n 0, 1) := by decide +kernel
theorem dX5_count_53 : decode cX5_count 53 = .ok (.getfield 19, 3) := by decide +kernel
theorem dX5_count_56 : decode cX5_count 56 = .ok (.getfield 85, 3) := by decide +kernel
theorem dX5_count_59 : decode cX5_count 59 = .ok (.ireturn, 1) := by decide +kernel
theorem dX5_count_60 : decode cX5_count 60 = .ok (.aload_n 0, 1) := by decide +kernel
theorem dX5_count_61 : decode cX5_count 61 = .ok (.getfield 19, 3) := by decide +kernel
theorem dX5_count_64 : decode cX5_count 64 = .ok (.getfield 88, 3) := by decide +kernel
theorem dX5_count_67 : decode cX5_count 67 = .ok (.ireturn, 1) := by decide +kernel
theorem dX5_count_68 : decode cX5_count 68 = .ok (.aload_n 0, 1) := by decide +kernel
theorem dX5_count_69 : decode cX5_count 69 = .ok (.getfield 19, 3) := by decide +kernel
theorem dX5_count_72 : decode cX5_count 72 = .ok (.getfield 135, 3) := by decide +kernel
theorem dX5_count_75 : decode cX5_count 75 = .ok (.ireturn, 1) := by decide +kernel
theorem dX5_count_76 : decode cX5_count 76 = .ok (.aload_n 0, 1) := by decide +kernel
theorem dX5_count_77 : decode cX5_count 77 = .ok (.getfield 19, 3) := by decide +kernel
theorem dX5_count_80 : decode cX5_count 80 = .ok (.invokevirtual 144, 3) := by decide +kernel
theorem dX5_count_83 : decode cX5_count 83 = .ok (.ireturn, 1) := by decide +kernel
theorem dX5_count_84 : decode cX5_count 84 = .ok (.aload_n 0, 1) := by decide +kernel
theorem dX5_count_85 : decode cX5_count 85 = .ok (.getfield 19, 3) := by decide +kernel
theorem dX5_count_88 : decode cX5_count 88 = .ok (.invokevirtual 216, 3) := by decide +kernel
theorem dX5_count_91 : decode cX5_count 91 = .ok (.ireturn, 1) := by decide +kernel
theorem dX5_count_92 : decode cX5_count 92 = .ok (.aload_n 0, 1) := by decide +kernel
theorem dX5_count_93 : decode cX5_count 93 = .ok (.getfield 41, 3) := by decide +kernel
theorem dX5_count_96 : decode cX5_count 96 = .ok (.getfield 195, 3) := by decide +kernel
theorem dX5_count_99 : decode cX5_count 99 = .ok (.ireturn, 1) := by decide +kernel
theorem dX5_count_100 : decode cX5_count 100 = .ok (.aload_n 0, 1) := by decide +kernel
theorem dX5_count_101 : decode cX5_count 101 = .ok (.getfield 31, 3) := by decide +kernel
theorem dX5_count_104 : decode cX5_count 104 = .ok (.getfield 166, 3) := by decide +kernel
theorem dX5_count_107 : decode cX5_count 107 = .ok (.ireturn, 1) := by decide +kernel
theorem dX5_count_108 : decode cX5_count 108 = .ok (.aload_n 0, 1) := by decide +kernel
theorem dX5_count_109 : decode cX5_count 109 = .ok (.getfield 35, 3) := by decide +kernel
theorem dX5_count_112 : decode cX5_count 112 = .ok (.getfield 166, 3) := by decide +kernel
theorem dX5_count_115 : decode cX5_count 115 = .ok (.ireturn, 1) := by decide +kernel
theorem dX5_count_116 : decode cX5_count 116 = .ok (.aload_n 0, 1) := by decide +kernel
theorem dX5_count_117 : decode cX5_count 117 = .ok (.getfield 12, 3) := by decide +kernel
theorem dX5_count_120 : decode cX5_count 120 = .ok (.getfield 82, 3) := by decide +kernel
theorem dX5_count_123 : decode cX5_count 123 = .ok (.ireturn, 1) := by decide +kernel
theorem dX5_count_124 : decode cX5_count 124 = .ok (.iconst (-1), 1) := by decide +kernel
theorem dX5_count_125 : decode cX5_count 125 = .ok (.ireturn, 1) := by decide +kernel
set_option maxRecDepth 20000 in
theorem ggX5_convinced_X0_isNews : GoodIn wsX5_convinced wsX0_isNews := goodIn_r _ [6, 7, 109, 110, 111, 112, 113, 114, 115, 116, 117] (by decide +kernel) (by decide +kernel)
set_option maxRecDepth 20000 in
theorem gX5_convinced_X0_isNews : GoodIn wsX5_convinced (wsV RX5 122 RX0 yX0_isNews wsX0_isNews) := goodIn_app (goodIn_of _ (by decide +kernel)) ggX5_convinced_X0_isNews
set_option maxRecDepth 20000 in
theorem ggX5_convinced_X5_isIn : GoodIn wsX5_convinced wsX5_isIn := goodIn_r _ [11] (by decide +kernel) (by decide +kernel)
set_option maxRecDepth 20000 in
theorem gX5_convinced_X5_isIn : GoodIn wsX5_convinced (va_wsS RX5 78 yX5_isIn wsX5_isIn) := goodIn_app (goodIn_of _ (by decide +kernel)) ggX5_convinced_X5_isIn
set_option maxRecDepth 20000 in
theorem ggX5_convinced_X0_isKnown : GoodIn wsX5_convinced wsX0_isKnown := goodIn_r _ [15, 16, 17, 10, 18, 109, 110, 111, 112, 113, 114, 115, 116, 117] (by decide +kernel) (by decide +kernel)
set_option maxRecDepth 20000 in
theorem gX5_convinced_X0_isKnown : GoodIn wsX5_convinced (wsV RX5 175 RX0 yX0_isKnown wsX0_isKnown) := goodIn_app (goodIn_of _ (by decide +kernel)) ggX5_convinced_X0_isKnown
set_option maxRecDepth 20000 in
theorem ggX5_convinced_J6_bitCount_0f7a4 : GoodIn wsX5_convinced wsJ6_bitCount_0f7a4 := goodIn_r _ [22, 23, 24, 25] (by decide +kernel) (by decide +kernel)
set_option maxRecDepth 20000 in
theorem gX5_convinced_J6_bitCount_0f7a4 : GoodIn wsX5_convinced (va_wsS RX5 219 yJ6_bitCount_0f7a4 wsJ6_bitCount_0f7a4) := goodIn_app (goodIn_of _ (by decide +kernel)) ggX5_convinced_J6_bitCount_0f7a4
set_option maxRecDepth 20000 in
theorem ggX5_convinced_X5_isKnownIfConvinced : GoodIn wsX5_convinced wsX5_isKnownIfConvinced := goodIn_r _ [29, 30, 1, 31, 32, 33, 5, 34, 35, 36, 37, 38, 39, 40, 41, 42, 16, 43, 44, 7, 45, 46, 47, 10, 48, 49, 50, 51, 52, 53, 54, 55, 56, 57, 58, 59, 13, 14, 15, 17, 18, 60, 61, 62, 63, 64, 65, 66, 67, 68, 69, 70, 71, 72, 73, 74, 75, 76, 77, 78, 79, 80, 81, 82, 83, 84, 85, 86, 87, 88, 89, 90, 91, 92, 93, 94, 95, 96, 97, 98, 99, 100, 12, 101, 102, 103, 104, 105, 106, 107, 108, 109, 110, 111, 112, 113, 114, 115, 116, 117] (by decide +kernel) (by decide +kernel)
set_option maxRecDepth 20000 in
theorem gX5_convinced_X5_isKnownIfConvinced : GoodIn wsX5_convinced (wsV RX5 224 RX5 yX5_isKnownIfConvinced wsX5_isKnownIfConvinced) := goodIn_app (goodIn_of _ (by decide +kernel)) ggX5_convinced_X5_isKnownIfConvinced
theorem dX5_convinced_0 : decode cX5_convinced 0 = .ok (.aload_n 0, 1) := by decide +kernel
theorem dX5_convinced_1 : decode cX5_convinced 1 = .ok (.getfield 19, 3) := by decide +kernel
theorem dX5_convinced_4 : decode cX5_convinced 4 = .ok (.iload_n 1, 1) := by decide +kernel
theorem dX5_convinced_5 : decode cX5_convinced 5 = .ok (.invokevirtual 122, 3) := by decide +kernel
theorem dX5_convinced_8 : decode cX5_convinced 8 = .ok (.ifCond .eq 22, 3) := by decide +kernel
theorem dX5_convinced_11 : decode cX5_convinced 11 = .ok (.iload_n 2, 1) := by decide +kernel
theorem dX5_convinced_12 : decode cX5_convinced 12 = .ok (.iconst 1, 1) := by decide +kernel
theorem dX5_convinced_13 : decode cX5_convinced 13 = .ok (.bipush 20, 2) := by decide +kernel
theorem dX5_convinced_15 : decode cX5_convinced 15 = .ok (.invokestatic 78, 3) := by decide +kernel
theorem dX5_convinced_18 : decode cX5_convinced 18 = .ok (.ifCond .eq 12, 3) := by decide +kernel
theorem dX5_convinced_21 : decode cX5_convinced 21 = .ok (.iload_n 3, 1) := by decide +kernel
theorem dX5_convinced_22 : decode cX5_convinced 22 = .ok (.iconst 0, 1) := by decide +kernel
theorem dX5_convinced_23 : decode cX5_convinced 23 = .ok (.iconst 1, 1) := by decide +kernel
theorem dX5_convinced_24 : decode cX5_convinced 24 = .ok (.invokestatic 78, 3) := by decide +kernel
theorem dX5_convinced_27 : decode cX5_convinced 27 = .ok (.ifCond .ne 5, 3) := by decide +kernel
theorem dX5_convinced_30 : decode cX5_convinced 30 = .ok (.iconst (-1), 1) := by decide +kernel
theorem dX5_convinced_31 : decode cX5_convinced 31 = .ok (.ireturn, 1) := by decide +kernel
theorem dX5_convinced_32 : decode cX5_convinced 32 = .ok (.aload_n 0, 1) := by decide +kernel
theorem dX5_convinced_33 : decode cX5_convinced 33 = .ok (.getfield 19, 3) := by decide +kernel
theorem dX5_convinced_36 : decode cX5_convinced 36 = .ok (.iload_n 1, 1) := by decide +kernel
theorem dX5_convinced_37 : decode cX5_convinced 37 = .ok (.invokevirtual 175, 3) := by decide +kernel
theorem dX5_convinced_40 : decode cX5_convinced 40 = .ok (.ifCond .eq 6, 3) := by decide +kernel
theorem dX5_convinced_43 : decode cX5_convinced 43 = .ok (.bipush (-2), 2) := by decide +kernel
theorem dX5_convinced_45 : decode cX5_convinced 45 = .ok (.ireturn, 1) := by decide +kernel
theorem dX5_convinced_46 : decode cX5_convinced 46 = .ok (.iload 4, 2) := by decide +kernel
theorem dX5_convinced_48 : decode cX5_convinced 48 = .ok (.ifCond .ne 7, 3) := by decide +kernel
theorem dX5_convinced_51 : decode cX5_convinced 51 = .ok (.iconst 1, 1) := by decide +kernel
theorem dX5_convinced_52 : decode cX5_convinced 52 = .ok (.goto 4, 3) := by decide +kernel
theorem dX5_convinced_55 : decode cX5_convinced 55 = .ok (.iconst 0, 1) := by decide +kernel
theorem dX5_convinced_56 : decode cX5_convinced 56 = .ok (.istore 5, 2) := by decide +kernel
theorem dX5_convinced_58 : decode cX5_convinced 58 = .ok (.bipush (-4), 2) := by decide +kernel
theorem dX5_convinced_60 : decode cX5_convinced 60 = .ok (.istore 6, 2) := by decide +kernel
theorem dX5_convinced_62 : decode cX5_convinced 62 = .ok (.bipush 8, 2) := by decide +kernel
theorem dX5_convinced_64 : decode cX5_convinced 64 = .ok (.istore 7, 2) := by decide +kernel
theorem dX5_convinced_66 : decode cX5_convinced 66 = .ok (.iconst 0, 1) := by decide +kernel
theorem dX5_convinced_67 : decode cX5_convinced 67 = .ok (.istore 8, 2) := by decide +kernel
theorem dX5_convinced_69 : decode cX5_convinced 69 = .ok (.iload 8, 2) := by decide +kernel
theorem dX5_convinced_71 : decode cX5_convinced 71 = .ok (.iconst 1, 1) := by decide +kernel
theorem dX5_convinced_72 : decode cX5_convinced 72 = .ok (.aload_n 0, 1) := by decide +kernel
theorem dX5_convinced_73 : decode cX5_convinced 73 = .ok (.getfield 19, 3) := by decide +kernel
theorem dX5_convinced_76 : decode cX5_convinced 76 = .ok (.getfield 85, 3) := by decide +kernel
theorem dX5_convinced_79 : decode cX5_convinced 79 = .ok (.ishl, 1) := by decide +kernel
theorem dX5_convinced_80 : decode cX5_convinced 80 = .ok (.if_icmp .ge 46, 3) := by decide +kernel
theorem dX5_convinced_83 : decode cX5_convinced 83 = .ok (.iload 8, 2) := by decide +kernel
theorem dX5_convinced_85 : decode cX5_convinced 85 = .ok (.invokestatic 219, 3) := by decide +kernel
theorem dX5_convinced_88 : decode cX5_convinced 88 = .ok (.istore 9, 2) := by decide +kernel
theorem dX5_convinced_90 : decode cX5_convinced 90 = .ok (.iload 9, 2) := by decide +kernel
theorem dX5_convinced_92 : decode cX5_convinced 92 = .ok (.iload 7, 2) := by decide +kernel
theorem dX5_convinced_94 : decode cX5_convinced 94 = .ok (.if_icmp .ge 26, 3) := by decide +kernel
theorem dX5_convinced_97 : decode cX5_convinced 97 = .ok (.aload_n 0, 1) := by decide +kernel
theorem dX5_convinced_98 : decode cX5_convinced 98 = .ok (.iload_n 1, 1) := by decide +kernel
theorem dX5_convinced_99 : decode cX5_convinced 99 = .ok (.iload_n 2, 1) := by decide +kernel
theorem dX5_convinced_100 : decode cX5_convinced 100 = .ok (.iload 8, 2) := by decide +kernel
theorem dX5_convinced_102 : decode cX5_convinced 102 = .ok (.iload 4, 2) := by decide +kernel
theorem dX5_convinced_104 : decode cX5_convinced 104 = .ok (.invokevirtual 224, 3) := by decide +kernel
theorem dX5_convinced_107 : decode cX5_convinced 107 = .ok (.iload 5, 2) := by decide +kernel
theorem dX5_convinced_109 : decode cX5_convinced 109 = .ok (.if_icmp .ne 11, 3) := by decide +kernel
theorem dX5_convinced_112 : decode cX5_convinced 112 = .ok (.iload 8, 2) := by decide +kernel
theorem dX5_convinced_114 : decode cX5_convinced 114 = .ok (.istore 6, 2) := by decide +kernel
theorem dX5_convinced_116 : decode cX5_convinced 116 = .ok (.iload 9, 2) := by decide +kernel
theorem dX5_convinced_118 : decode cX5_convinced 118 = .ok (.istore 7, 2) := by decide +kernel
theorem dX5_convinced_120 : decode cX5_convinced 120 = .ok (.iinc 8 1, 3) := by decide +kernel
theorem dX5_convinced_123 : decode cX5_convinced 123 = .ok (.goto (-54), 3) := by decide +kernel
theorem dX5_convinced_126 : decode cX5_convinced 126 = .ok (.iload_n 3, 1) := by decide +kernel
theorem dX5_convinced_127 : decode cX5_convinced 127 = .ok (.ifCond .ne 15, 3) := by decide +kernel
theorem dX5_convinced_130 : decode cX5_convinced 130 = .ok (.iload 6, 2) := by decide +kernel
theorem dX5_convinced_132 : decode cX5_convinced 132 = .ok (.bipush (-4), 2) := by decide +kernel
theorem dX5_convinced_134 : decode cX5_convinced 134 = .ok (.if_icmp .eq 8, 3) := by decide +kernel
theorem dX5_convinced_137 : decode cX5_convinced 137 = .ok (.iload 7, 2) := by decide +kernel
theorem dX5_convinced_139 : decode cX5_convinced 139 = .ok (.goto 5, 3) := by decide +kernel
theorem dX5_convinced_142 : decode cX5_convinced 142 = .ok (.iload 6, 2) := by decide +kernel
theorem dX5_convinced_144 : decode cX5_convinced 144 = .ok (.ireturn, 1) := by decide +kernel
set_option maxRecDepth 20000 in
theorem ggX5_isKnownIfConvinced_X0_copyFrom : GoodIn wsX5_isKnownIfConvinced wsX0_copyFrom := goodIn_r _ [7, 8, 9, 10, 11, 12, 13, 14, 15, 16, 17, 18, 19, 20, 91, 92, 93, 94, 95, 96, 97, 98, 99] (by decide +kernel) (by decide +kernel)
set_option maxRecDepth 20000 in
theorem gX5_isKnownIfConvinced_X0_copyFrom : GoodIn wsX5_isKnownIfConvinced (wsV RX5 91 RX0 yX0_copyFrom wsX0_copyFrom) := goodIn_app (goodIn_of _ (by decide +kernel)) ggX5_isKnownIfConvinced_X0_copyFrom
set_option maxRecDepth 20000 in
theorem ggX5_isKnownIfConvinced_X5_hasBit : GoodIn wsX5_isKnownIfConvinced wsX5_hasBit := goodIn_r _ [24] (by decide +kernel) (by decide +kernel)
set_option maxRecDepth 20000 in
theorem gX5_isKnownIfConvinced_X5_hasBit : GoodIn wsX5_isKnownIfConvinced (va_wsS RX5 228 yX5_hasBit wsX5_hasBit) := goodIn_app (goodIn_of _ (by decide +kernel)) ggX5_isKnownIfConvinced_X5_hasBit
set_option maxRecDepth 20000 in
theorem ggX5_isKnownIfConvinced_X0_setBelief : GoodIn wsX5_isKnownIfConvinced wsX0_setBelief := goodIn_r _ [28, 17, 29, 23, 30, 91, 92, 93, 94, 95, 96, 97, 98, 99] (by decide +kernel) (by decide +kernel)
set_option maxRecDepth 20000 in
theorem gX5_isKnownIfConvinced_X0_setBelief : GoodIn wsX5_isKnownIfConvinced (wsV RX5 150 RX0 yX0_setBelief wsX0_setBelief) := goodIn_app (goodIn_of _ (by decide +kernel)) ggX5_isKnownIfConvinced_X0_setBelief
set_option maxRecDepth 20000 in
theorem ggX5_isKnownIfConvinced_X0_liveFor : GoodIn wsX5_isKnownIfConvinced wsX0_liveFor := goodIn_r _ [34, 35, 36, 37, 6, 38, 16, 39, 23, 40, 41, 42, 43, 44, 18, 45, 46, 47, 48, 17, 49, 50, 51, 52, 14, 22, 24, 53, 54, 55, 56, 15, 29, 30, 57, 58, 59, 60, 61, 62, 63, 64, 65, 66, 67, 68, 69, 70, 71, 72, 13, 8, 73, 74, 75, 76, 77, 78, 79, 80, 81, 26, 27, 28, 91, 92, 93, 94, 95, 96, 97, 98, 99] (by decide +kernel) (by decide +kernel)
set_option maxRecDepth 20000 in
theorem gX5_isKnownIfConvinced_X0_liveFor : GoodIn wsX5_isKnownIfConvinced (wsV RX5 169 RX0 yX0_liveFor wsX0_liveFor) := goodIn_app (goodIn_of _ (by decide +kernel)) ggX5_isKnownIfConvinced_X0_liveFor
set_option maxRecDepth 20000 in
theorem ggX5_isKnownIfConvinced_X0_isKnown : GoodIn wsX5_isKnownIfConvinced wsX0_isKnown := goodIn_r _ [38, 16, 39, 23, 40, 91, 92, 93, 94, 95, 96, 97, 98, 99] (by decide +kernel) (by decide +kernel)
set_option maxRecDepth 20000 in
theorem gX5_isKnownIfConvinced_X0_isKnown : GoodIn wsX5_isKnownIfConvinced (wsV RX5 175 RX0 yX0_isKnown wsX0_isKnown) := goodIn_app (goodIn_of _ (by decide +kernel)) ggX5_isKnownIfConvinced_X0_isKnown
theorem dX5_isKnownIfConvinced_0 : decode cX5_isKnownIfConvinced 0 = .ok (.aload_n 0, 1) := by decide +kernel
theorem dX5_isKnownIfConvinced_1 : decode cX5_isKnownIfConvinced 1 = .ok (.getfield 23, 3) := by decide +kernel
theorem dX5_isKnownIfConvinced_4 : decode cX5_isKnownIfConvinced 4 = .ok (.aload_n 0, 1) := by decide +kernel
theorem dX5_isKnownIfConvinced_5 : decode cX5_isKnownIfConvinced 5 = .ok (.getfield 19, 3) := by decide +kernel
theorem dX5_isKnownIfConvinced_8 : decode cX5_isKnownIfConvinced 8 = .ok (.invokevirtual 91, 3) := by decide +kernel
theorem dX5_isKnownIfConvinced_11 : decode cX5_isKnownIfConvinced 11 = .ok (.iconst 0, 1) := by decide +kernel
theorem dX5_isKnownIfConvinced_12 : decode cX5_isKnownIfConvinced 12 = .ok (.istore 5, 2) := by decide +kernel
theorem dX5_isKnownIfConvinced_14 : decode cX5_isKnownIfConvinced 14 = .ok (.iload 5, 2) := by decide +kernel
theorem dX5_isKnownIfConvinced_16 : decode cX5_isKnownIfConvinced 16 = .ok (.aload_n 0, 1) := by decide +kernel
theorem dX5_isKnownIfConvinced_17 : decode cX5_isKnownIfConvinced 17 = .ok (.getfield 19, 3) := by decide +kernel
theorem dX5_isKnownIfConvinced_20 : decode cX5_isKnownIfConvinced 20 = .ok (.getfield 85, 3) := by decide +kernel
theorem dX5_isKnownIfConvinced_23 : decode cX5_isKnownIfConvinced 23 = .ok (.if_icmp .ge 30, 3) := by decide +kernel
theorem dX5_isKnownIfConvinced_26 : decode cX5_isKnownIfConvinced 26 = .ok (.iload_n 3, 1) := by decide +kernel
theorem dX5_isKnownIfConvinced_27 : decode cX5_isKnownIfConvinced 27 = .ok (.iload 5, 2) := by decide +kernel
theorem dX5_isKnownIfConvinced_29 : decode cX5_isKnownIfConvinced 29 = .ok (.invokestatic 228, 3) := by decide +kernel
theorem dX5_isKnownIfConvinced_32 : decode cX5_isKnownIfConvinced 32 = .ok (.ifCond .eq 15, 3) := by decide +kernel
theorem dX5_isKnownIfConvinced_35 : decode cX5_isKnownIfConvinced 35 = .ok (.aload_n 0, 1) := by decide +kernel
theorem dX5_isKnownIfConvinced_36 : decode cX5_isKnownIfConvinced 36 = .ok (.getfield 23, 3) := by decide +kernel
theorem dX5_isKnownIfConvinced_39 : decode cX5_isKnownIfConvinced 39 = .ok (.iload 5, 2) := by decide +kernel
theorem dX5_isKnownIfConvinced_41 : decode cX5_isKnownIfConvinced 41 = .ok (.iload_n 1, 1) := by decide +kernel
theorem dX5_isKnownIfConvinced_42 : decode cX5_isKnownIfConvinced 42 = .ok (.iload 4, 2) := by decide +kernel
theorem dX5_isKnownIfConvinced_44 : decode cX5_isKnownIfConvinced 44 = .ok (.invokevirtual 150, 3) := by decide +kernel
theorem dX5_isKnownIfConvinced_47 : decode cX5_isKnownIfConvinced 47 = .ok (.iinc 5 1, 3) := by decide +kernel
theorem dX5_isKnownIfConvinced_50 : decode cX5_isKnownIfConvinced 50 = .ok (.goto (-36), 3) := by decide +kernel
theorem dX5_isKnownIfConvinced_53 : decode cX5_isKnownIfConvinced 53 = .ok (.aload_n 0, 1) := by decide +kernel
theorem dX5_isKnownIfConvinced_54 : decode cX5_isKnownIfConvinced 54 = .ok (.getfield 23, 3) := by decide +kernel
theorem dX5_isKnownIfConvinced_57 : decode cX5_isKnownIfConvinced 57 = .ok (.iload_n 1, 1) := by decide +kernel
theorem dX5_isKnownIfConvinced_58 : decode cX5_isKnownIfConvinced 58 = .ok (.iload_n 2, 1) := by decide +kernel
theorem dX5_isKnownIfConvinced_59 : decode cX5_isKnownIfConvinced 59 = .ok (.invokevirtual 169, 3) := by decide +kernel
theorem dX5_isKnownIfConvinced_62 : decode cX5_isKnownIfConvinced 62 = .ok (.aload_n 0, 1) := by decide +kernel
theorem dX5_isKnownIfConvinced_63 : decode cX5_isKnownIfConvinced 63 = .ok (.getfield 23, 3) := by decide +kernel
theorem dX5_isKnownIfConvinced_66 : decode cX5_isKnownIfConvinced 66 = .ok (.iload_n 1, 1) := by decide +kernel
theorem dX5_isKnownIfConvinced_67 : decode cX5_isKnownIfConvinced 67 = .ok (.invokevirtual 175, 3) := by decide +kernel
theorem dX5_isKnownIfConvinced_70 : decode cX5_isKnownIfConvinced 70 = .ok (.ireturn, 1) := by decide +kernel
set_option maxRecDepth 20000 in
theorem ggX5_soonestSwap_X0_copyFrom : GoodIn wsX5_soonestSwap wsX0_copyFrom := goodIn_r _ [7, 8, 9, 10, 11, 12, 13, 14, 15, 16, 17, 18, 19, 20, 96, 97, 98, 99, 100, 101, 102, 103, 104] (by decide +kernel) (by decide +kernel)
set_option maxRecDepth 20000 in
theorem gX5_soonestSwap_X0_copyFrom : GoodIn wsX5_soonestSwap (wsV RX5 91 RX0 yX0_copyFrom wsX0_copyFrom) := goodIn_app (goodIn_of _ (by decide +kernel)) ggX5_soonestSwap_X0_copyFrom
set_option maxRecDepth 20000 in
theorem ggX5_soonestSwap_X0_untilKnown : GoodIn wsX5_soonestSwap wsX0_untilKnown := goodIn_r _ [24, 25, 26, 27, 6, 28, 16, 29, 30, 31, 32, 33, 34, 35, 36, 37, 38, 39, 18, 40, 41, 42, 43, 17, 44, 45, 46, 47, 14, 48, 49, 50, 51, 52, 53, 15, 54, 55, 56, 57, 58, 59, 60, 61, 62, 63, 64, 65, 66, 67, 68, 69, 70, 71, 13, 8, 72, 73, 74, 75, 76, 77, 78, 79, 80, 81, 82, 83, 96, 97, 98, 99, 100, 101, 102, 103, 104] (by decide +kernel) (by decide +kernel)
set_option maxRecDepth 20000 in
theorem gX5_soonestSwap_X0_untilKnown : GoodIn wsX5_soonestSwap (wsV RX5 172 RX0 yX0_untilKnown wsX0_untilKnown) := goodIn_app (goodIn_of _ (by decide +kernel)) ggX5_soonestSwap_X0_untilKnown
set_option maxRecDepth 20000 in
theorem ggX5_soonestSwap_X0_changePlaces : GoodIn wsX5_soonestSwap wsX0_changePlaces := goodIn_r _ [87, 14, 15, 29, 30, 31, 54, 55, 96, 97, 98, 99, 100, 101, 102, 103, 104] (by decide +kernel) (by decide +kernel)
set_option maxRecDepth 20000 in
theorem gX5_soonestSwap_X0_changePlaces : GoodIn wsX5_soonestSwap (wsV RX5 158 RX0 yX0_changePlaces wsX0_changePlaces) := goodIn_app (goodIn_of _ (by decide +kernel)) ggX5_soonestSwap_X0_changePlaces
theorem dX5_soonestSwap_0 : decode cX5_soonestSwap 0 = .ok (.aload_n 0, 1) := by decide +kernel
theorem dX5_soonestSwap_1 : decode cX5_soonestSwap 1 = .ok (.getfield 23, 3) := by decide +kernel
theorem dX5_soonestSwap_4 : decode cX5_soonestSwap 4 = .ok (.aload_n 0, 1) := by decide +kernel
theorem dX5_soonestSwap_5 : decode cX5_soonestSwap 5 = .ok (.getfield 19, 3) := by decide +kernel
theorem dX5_soonestSwap_8 : decode cX5_soonestSwap 8 = .ok (.invokevirtual 91, 3) := by decide +kernel
theorem dX5_soonestSwap_11 : decode cX5_soonestSwap 11 = .ok (.aload_n 0, 1) := by decide +kernel
theorem dX5_soonestSwap_12 : decode cX5_soonestSwap 12 = .ok (.getfield 23, 3) := by decide +kernel
theorem dX5_soonestSwap_15 : decode cX5_soonestSwap 15 = .ok (.iload_n 1, 1) := by decide +kernel
theorem dX5_soonestSwap_16 : decode cX5_soonestSwap 16 = .ok (.bipush 60, 2) := by decide +kernel
theorem dX5_soonestSwap_18 : decode cX5_soonestSwap 18 = .ok (.invokevirtual 172, 3) := by decide +kernel
theorem dX5_soonestSwap_21 : decode cX5_soonestSwap 21 = .ok (.istore_n 2, 1) := by decide +kernel
theorem dX5_soonestSwap_22 : decode cX5_soonestSwap 22 = .ok (.iload_n 2, 1) := by decide +kernel
theorem dX5_soonestSwap_23 : decode cX5_soonestSwap 23 = .ok (.bipush (-4), 2) := by decide +kernel
theorem dX5_soonestSwap_25 : decode cX5_soonestSwap 25 = .ok (.if_icmp .ne 8, 3) := by decide +kernel
theorem dX5_soonestSwap_28 : decode cX5_soonestSwap 28 = .ok (.bipush 60, 2) := by decide +kernel
theorem dX5_soonestSwap_30 : decode cX5_soonestSwap 30 = .ok (.goto 6, 3) := by decide +kernel
theorem dX5_soonestSwap_33 : decode cX5_soonestSwap 33 = .ok (.iload_n 2, 1) := by decide +kernel
theorem dX5_soonestSwap_34 : decode cX5_soonestSwap 34 = .ok (.iconst 1, 1) := by decide +kernel
theorem dX5_soonestSwap_35 : decode cX5_soonestSwap 35 = .ok (.isub, 1) := by decide +kernel
theorem dX5_soonestSwap_36 : decode cX5_soonestSwap 36 = .ok (.istore_n 3, 1) := by decide +kernel
theorem dX5_soonestSwap_37 : decode cX5_soonestSwap 37 = .ok (.bipush (-4), 2) := by decide +kernel
theorem dX5_soonestSwap_39 : decode cX5_soonestSwap 39 = .ok (.istore 4, 2) := by decide +kernel
theorem dX5_soonestSwap_41 : decode cX5_soonestSwap 41 = .ok (.iconst 0, 1) := by decide +kernel
theorem dX5_soonestSwap_42 : decode cX5_soonestSwap 42 = .ok (.istore 5, 2) := by decide +kernel
theorem dX5_soonestSwap_44 : decode cX5_soonestSwap 44 = .ok (.iload 5, 2) := by decide +kernel
theorem dX5_soonestSwap_46 : decode cX5_soonestSwap 46 = .ok (.aload_n 0, 1) := by decide +kernel
theorem dX5_soonestSwap_47 : decode cX5_soonestSwap 47 = .ok (.getfield 19, 3) := by decide +kernel
theorem dX5_soonestSwap_50 : decode cX5_soonestSwap 50 = .ok (.getfield 85, 3) := by decide +kernel
theorem dX5_soonestSwap_53 : decode cX5_soonestSwap 53 = .ok (.if_icmp .ge 94, 3) := by decide +kernel
theorem dX5_soonestSwap_56 : decode cX5_soonestSwap 56 = .ok (.iload 5, 2) := by decide +kernel
theorem dX5_soonestSwap_58 : decode cX5_soonestSwap 58 = .ok (.iconst 1, 1) := by decide +kernel
theorem dX5_soonestSwap_59 : decode cX5_soonestSwap 59 = .ok (.iadd, 1) := by decide +kernel
theorem dX5_soonestSwap_60 : decode cX5_soonestSwap 60 = .ok (.istore 6, 2) := by decide +kernel
theorem dX5_soonestSwap_62 : decode cX5_soonestSwap 62 = .ok (.iload 6, 2) := by decide +kernel
theorem dX5_soonestSwap_64 : decode cX5_soonestSwap 64 = .ok (.aload_n 0, 1) := by decide +kernel
theorem dX5_soonestSwap_65 : decode cX5_soonestSwap 65 = .ok (.getfield 19, 3) := by decide +kernel
theorem dX5_soonestSwap_68 : decode cX5_soonestSwap 68 = .ok (.getfield 85, 3) := by decide +kernel
theorem dX5_soonestSwap_71 : decode cX5_soonestSwap 71 = .ok (.if_icmp .ge 70, 3) := by decide +kernel
theorem dX5_soonestSwap_74 : decode cX5_soonestSwap 74 = .ok (.aload_n 0, 1) := by decide +kernel
theorem dX5_soonestSwap_75 : decode cX5_soonestSwap 75 = .ok (.getfield 23, 3) := by decide +kernel
theorem dX5_soonestSwap_78 : decode cX5_soonestSwap 78 = .ok (.aload_n 0, 1) := by decide +kernel
theorem dX5_soonestSwap_79 : decode cX5_soonestSwap 79 = .ok (.getfield 19, 3) := by decide +kernel
theorem dX5_soonestSwap_82 : decode cX5_soonestSwap 82 = .ok (.invokevirtual 91, 3) := by decide +kernel
theorem dX5_soonestSwap_85 : decode cX5_soonestSwap 85 = .ok (.aload_n 0, 1) := by decide +kernel
theorem dX5_soonestSwap_86 : decode cX5_soonestSwap 86 = .ok (.getfield 23, 3) := by decide +kernel
theorem dX5_soonestSwap_89 : decode cX5_soonestSwap 89 = .ok (.iload 5, 2) := by decide +kernel
theorem dX5_soonestSwap_91 : decode cX5_soonestSwap 91 = .ok (.iload 6, 2) := by decide +kernel
theorem dX5_soonestSwap_93 : decode cX5_soonestSwap 93 = .ok (.invokevirtual 158, 3) := by decide +kernel
theorem dX5_soonestSwap_96 : decode cX5_soonestSwap 96 = .ok (.aload_n 0, 1) := by decide +kernel
theorem dX5_soonestSwap_97 : decode cX5_soonestSwap 97 = .ok (.getfield 23, 3) := by decide +kernel
theorem dX5_soonestSwap_100 : decode cX5_soonestSwap 100 = .ok (.iload_n 1, 1) := by decide +kernel
theorem dX5_soonestSwap_101 : decode cX5_soonestSwap 101 = .ok (.iload_n 3, 1) := by decide +kernel
theorem dX5_soonestSwap_102 : decode cX5_soonestSwap 102 = .ok (.invokevirtual 172, 3) := by decide +kernel
theorem dX5_soonestSwap_105 : decode cX5_soonestSwap 105 = .ok (.istore 7, 2) := by decide +kernel
theorem dX5_soonestSwap_107 : decode cX5_soonestSwap 107 = .ok (.iload 7, 2) := by decide +kernel
theorem dX5_soonestSwap_109 : decode cX5_soonestSwap 109 = .ok (.bipush (-4), 2) := by decide +kernel
theorem dX5_soonestSwap_111 : decode cX5_soonestSwap 111 = .ok (.if_icmp .eq 24, 3) := by decide +kernel
theorem dX5_soonestSwap_114 : decode cX5_soonestSwap 114 = .ok (.bipush 100, 2) := by decide +kernel
theorem dX5_soonestSwap_116 : decode cX5_soonestSwap 116 = .ok (.iload 7, 2) := by decide +kernel
theorem dX5_soonestSwap_118 : decode cX5_soonestSwap 118 = .ok (.imul, 1) := by decide +kernel
theorem dX5_soonestSwap_119 : decode cX5_soonestSwap 119 = .ok (.bipush 10, 2) := by decide +kernel
theorem dX5_soonestSwap_121 : decode cX5_soonestSwap 121 = .ok (.iload 5, 2) := by decide +kernel
theorem dX5_soonestSwap_123 : decode cX5_soonestSwap 123 = .ok (.imul, 1) := by decide +kernel
theorem dX5_soonestSwap_124 : decode cX5_soonestSwap 124 = .ok (.iadd, 1) := by decide +kernel
theorem dX5_soonestSwap_125 : decode cX5_soonestSwap 125 = .ok (.iload 6, 2) := by decide +kernel
theorem dX5_soonestSwap_127 : decode cX5_soonestSwap 127 = .ok (.iadd, 1) := by decide +kernel
theorem dX5_soonestSwap_128 : decode cX5_soonestSwap 128 = .ok (.istore 4, 2) := by decide +kernel
theorem dX5_soonestSwap_130 : decode cX5_soonestSwap 130 = .ok (.iload 7, 2) := by decide +kernel
theorem dX5_soonestSwap_132 : decode cX5_soonestSwap 132 = .ok (.iconst 1, 1) := by decide +kernel
theorem dX5_soonestSwap_133 : decode cX5_soonestSwap 133 = .ok (.isub, 1) := by decide +kernel
theorem dX5_soonestSwap_134 : decode cX5_soonestSwap 134 = .ok (.istore_n 3, 1) := by decide +kernel
theorem dX5_soonestSwap_135 : decode cX5_soonestSwap 135 = .ok (.iinc 6 1, 3) := by decide +kernel
theorem dX5_soonestSwap_138 : decode cX5_soonestSwap 138 = .ok (.goto (-76), 3) := by decide +kernel
theorem dX5_soonestSwap_141 : decode cX5_soonestSwap 141 = .ok (.iinc 5 1, 3) := by decide +kernel
theorem dX5_soonestSwap_144 : decode cX5_soonestSwap 144 = .ok (.goto (-100), 3) := by decide +kernel
theorem dX5_soonestSwap_147 : decode cX5_soonestSwap 147 = .ok (.iload 4, 2) := by decide +kernel
theorem dX5_soonestSwap_149 : decode cX5_soonestSwap 149 = .ok (.ireturn, 1) := by decide +kernel
set_option maxRecDepth 20000 in
theorem ggX5_chances_X2_last : GoodIn wsX5_chances wsX2_last := goodIn_r _ [5, 6, 7, 110, 111] (by decide +kernel) (by decide +kernel)
set_option maxRecDepth 20000 in
theorem gX5_chances_X2_last : GoodIn wsX5_chances (wsV RX5 232 RX2 yX2_last wsX2_last) := goodIn_app (goodIn_of _ (by decide +kernel)) ggX5_chances_X2_last
set_option maxRecDepth 20000 in
theorem ggX5_chances_X0_isKnown : GoodIn wsX5_chances wsX0_isKnown := goodIn_r _ [12, 13, 14, 15, 16, 112, 113, 114, 115, 116, 117, 118, 119, 120] (by decide +kernel) (by decide +kernel)
set_option maxRecDepth 20000 in
theorem gX5_chances_X0_isKnown : GoodIn wsX5_chances (wsV RX5 175 RX0 yX0_isKnown wsX0_isKnown) := goodIn_app (goodIn_of _ (by decide +kernel)) ggX5_chances_X0_isKnown
set_option maxRecDepth 20000 in
theorem ggX5_chances_X2_push : GoodIn wsX5_chances wsX2_push := goodIn_r _ [20, 6, 7, 21, 22, 23, 4, 24, 25, 2, 3, 5, 26, 27, 28, 11, 29, 30, 31, 32, 33, 34, 35, 36, 37, 13, 38, 39, 40, 41, 110, 111, 112, 113, 114, 115, 116, 117, 118, 119, 120] (by decide +kernel) (by decide +kernel)
set_option maxRecDepth 20000 in
theorem gX5_chances_X2_push : GoodIn wsX5_chances (wsV RX5 138 RX2 yX2_push wsX2_push) := goodIn_app (goodIn_of _ (by decide +kernel)) ggX5_chances_X2_push
set_option maxRecDepth 20000 in
theorem ggX5_chances_X0_slipLowest : GoodIn wsX5_chances wsX0_slipLowest := goodIn_r _ [45, 40, 46, 9, 10, 11, 12, 13, 14, 15, 16, 47, 48, 49, 50, 36, 37, 51, 52, 112, 113, 114, 115, 116, 117, 118, 119, 120] (by decide +kernel) (by decide +kernel)
set_option maxRecDepth 20000 in
theorem gX5_chances_X0_slipLowest : GoodIn wsX5_chances (wsV RX5 236 RX0 yX0_slipLowest wsX0_slipLowest) := goodIn_app (goodIn_of _ (by decide +kernel)) ggX5_chances_X0_slipLowest
set_option maxRecDepth 20000 in
theorem ggX5_chances_X0_live : GoodIn wsX5_chances wsX0_live := goodIn_r _ [56, 40, 41, 57, 58, 59, 11, 60, 46, 9, 10, 12, 13, 14, 15, 16, 61, 62, 63, 64, 39, 65, 66, 67, 68, 38, 69, 70, 71, 72, 36, 73, 74, 47, 48, 49, 50, 37, 51, 52, 75, 76, 77, 78, 79, 80, 81, 82, 83, 84, 85, 86, 87, 88, 89, 90, 35, 30, 91, 92, 93, 94, 95, 96, 97, 98, 99, 100, 101, 102, 112, 113, 114, 115, 116, 117, 118, 119, 120] (by decide +kernel) (by decide +kernel)
set_option maxRecDepth 20000 in
theorem gX5_chances_X0_live : GoodIn wsX5_chances (wsV RX5 141 RX0 yX0_live wsX0_live) := goodIn_app (goodIn_of _ (by decide +kernel)) ggX5_chances_X0_live
set_option maxRecDepth 20000 in
theorem ggX5_chances_X5_chances : GoodIn wsX5_chances wsX5_chances := goodIn_r _ [0, 1, 2, 3, 4, 5, 6, 7, 8, 9, 10, 11, 12, 13, 14, 15, 16, 17, 18, 19, 20, 21, 22, 23, 24, 25, 26, 27, 28, 29, 30, 31, 32, 33, 34, 35, 36, 37, 38, 39, 40, 41, 42, 43, 44, 45, 46, 47, 48, 49, 50, 51, 52, 53, 54, 55, 56, 57, 58, 59, 60, 61, 62, 63, 64, 65, 66, 67, 68, 69, 70, 71, 72, 73, 74, 75, 76, 77, 78, 79, 80, 81, 82, 83, 84, 85, 86, 87, 88, 89, 90, 91, 92, 93, 94, 95, 96, 97, 98, 99, 100, 101, 102, 103, 104, 105, 106, 107, 108, 109, 110, 111, 112, 113, 114, 115, 116, 117, 118, 119, 120] (by decide +kernel) (by decide +kernel)
set_option maxRecDepth 20000 in
theorem gX5_chances_X5_chances : GoodIn wsX5_chances (va_wsS RX5 203 yX5_chances wsX5_chances) := goodIn_app (goodIn_of _ (by decide +kernel)) ggX5_chances_X5_chances
set_option maxRecDepth 20000 in
theorem ggX5_chances_X2_drop : GoodIn wsX5_chances wsX2_drop := goodIn_r _ [108, 6, 109, 97, 81, 98, 110, 111] (by decide +kernel) (by decide +kernel)
set_option maxRecDepth 20000 in
theorem gX5_chances_X2_drop : GoodIn wsX5_chances (wsV RX5 239 RX2 yX2_drop wsX2_drop) := goodIn_app (goodIn_of _ (by decide +kernel)) ggX5_chances_X2_drop
