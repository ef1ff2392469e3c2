theorem dX0_init_0 : decode cX0_init 0 = .ok (.aload_n 0, 1) := by decide +kernel
theorem dX0_init_1 : decode cX0_init 1 = .ok (.invokespecial 3, 3) := by decide +kernel
theorem dX0_init_4 : decode cX0_init 4 = .ok (.aload_n 0, 1) := by decide +kernel
theorem dX0_init_5 : decode cX0_init 5 = .ok (.bipush 7, 2) := by decide +kernel
theorem dX0_init_7 : decode cX0_init 7 = .ok (.newarray .int, 2) := by decide +kernel
theorem dX0_init_9 : decode cX0_init 9 = .ok (.putfield 9, 3) := by decide +kernel
theorem dX0_init_12 : decode cX0_init 12 = .ok (.aload_n 0, 1) := by decide +kernel
theorem dX0_init_13 : decode cX0_init 13 = .ok (.bipush 7, 2) := by decide +kernel
theorem dX0_init_15 : decode cX0_init 15 = .ok (.newarray .int, 2) := by decide +kernel
theorem dX0_init_17 : decode cX0_init 17 = .ok (.putfield 15, 3) := by decide +kernel
theorem dX0_init_20 : decode cX0_init 20 = .ok (.aload_n 0, 1) := by decide +kernel
theorem dX0_init_21 : decode cX0_init 21 = .ok (.bipush 7, 2) := by decide +kernel
theorem dX0_init_23 : decode cX0_init 23 = .ok (.newarray .int, 2) := by decide +kernel
theorem dX0_init_25 : decode cX0_init 25 = .ok (.putfield 18, 3) := by decide +kernel
theorem dX0_init_28 : decode cX0_init 28 = .ok (.aload_n 0, 1) := by decide +kernel
theorem dX0_init_29 : decode cX0_init 29 = .ok (.bipush 7, 2) := by decide +kernel
theorem dX0_init_31 : decode cX0_init 31 = .ok (.newarray .int, 2) := by decide +kernel
theorem dX0_init_33 : decode cX0_init 33 = .ok (.putfield 21, 3) := by decide +kernel
theorem dX0_init_36 : decode cX0_init 36 = .ok (.aload_n 0, 1) := by decide +kernel
theorem dX0_init_37 : decode cX0_init 37 = .ok (.bipush 6, 2) := by decide +kernel
theorem dX0_init_39 : decode cX0_init 39 = .ok (.newarray .int, 2) := by decide +kernel
theorem dX0_init_41 : decode cX0_init 41 = .ok (.putfield 24, 3) := by decide +kernel
theorem dX0_init_44 : decode cX0_init 44 = .ok (.aload_n 0, 1) := by decide +kernel
theorem dX0_init_45 : decode cX0_init 45 = .ok (.bipush 42, 2) := by decide +kernel
theorem dX0_init_47 : decode cX0_init 47 = .ok (.newarray .int, 2) := by decide +kernel
theorem dX0_init_49 : decode cX0_init 49 = .ok (.putfield 27, 3) := by decide +kernel
theorem dX0_init_52 : decode cX0_init 52 = .ok (.return_, 1) := by decide +kernel
theorem dX0_clear_0 : decode cX0_clear 0 = .ok (.iconst 0, 1) := by decide +kernel
theorem dX0_clear_1 : decode cX0_clear 1 = .ok (.istore_n 1, 1) := by decide +kernel
theorem dX0_clear_2 : decode cX0_clear 2 = .ok (.iload_n 1, 1) := by decide +kernel
theorem dX0_clear_3 : decode cX0_clear 3 = .ok (.aload_n 0, 1) := by decide +kernel
theorem dX0_clear_4 : decode cX0_clear 4 = .ok (.getfield 27, 3) := by decide +kernel
theorem dX0_clear_7 : decode cX0_clear 7 = .ok (.arraylength, 1) := by decide +kernel
theorem dX0_clear_8 : decode cX0_clear 8 = .ok (.if_icmp .ge 16, 3) := by decide +kernel
theorem dX0_clear_11 : decode cX0_clear 11 = .ok (.aload_n 0, 1) := by decide +kernel
theorem dX0_clear_12 : decode cX0_clear 12 = .ok (.getfield 27, 3) := by decide +kernel
theorem dX0_clear_15 : decode cX0_clear 15 = .ok (.iload_n 1, 1) := by decide +kernel
theorem dX0_clear_16 : decode cX0_clear 16 = .ok (.iconst 0, 1) := by decide +kernel
theorem dX0_clear_17 : decode cX0_clear 17 = .ok (.iastore, 1) := by decide +kernel
theorem dX0_clear_18 : decode cX0_clear 18 = .ok (.iinc 1 1, 3) := by decide +kernel
theorem dX0_clear_21 : decode cX0_clear 21 = .ok (.goto (-19), 3) := by decide +kernel
theorem dX0_clear_24 : decode cX0_clear 24 = .ok (.aload_n 0, 1) := by decide +kernel
theorem dX0_clear_25 : decode cX0_clear 25 = .ok (.iconst 0, 1) := by decide +kernel
theorem dX0_clear_26 : decode cX0_clear 26 = .ok (.putfield 30, 3) := by decide +kernel
theorem dX0_clear_29 : decode cX0_clear 29 = .ok (.aload_n 0, 1) := by decide +kernel
theorem dX0_clear_30 : decode cX0_clear 30 = .ok (.iconst 0, 1) := by decide +kernel
theorem dX0_clear_31 : decode cX0_clear 31 = .ok (.putfield 34, 3) := by decide +kernel
theorem dX0_clear_34 : decode cX0_clear 34 = .ok (.aload_n 0, 1) := by decide +kernel
theorem dX0_clear_35 : decode cX0_clear 35 = .ok (.iconst 0, 1) := by decide +kernel
theorem dX0_clear_36 : decode cX0_clear 36 = .ok (.putfield 37, 3) := by decide +kernel
theorem dX0_clear_39 : decode cX0_clear 39 = .ok (.return_, 1) := by decide +kernel
theorem dX0_copyFrom_0 : decode cX0_copyFrom 0 = .ok (.aload_n 1, 1) := by decide +kernel
theorem dX0_copyFrom_1 : decode cX0_copyFrom 1 = .ok (.getfield 9, 3) := by decide +kernel
theorem dX0_copyFrom_4 : decode cX0_copyFrom 4 = .ok (.iconst 0, 1) := by decide +kernel
theorem dX0_copyFrom_5 : decode cX0_copyFrom 5 = .ok (.aload_n 0, 1) := by decide +kernel
theorem dX0_copyFrom_6 : decode cX0_copyFrom 6 = .ok (.getfield 9, 3) := by decide +kernel
theorem dX0_copyFrom_9 : decode cX0_copyFrom 9 = .ok (.iconst 0, 1) := by decide +kernel
theorem dX0_copyFrom_10 : decode cX0_copyFrom 10 = .ok (.bipush 7, 2) := by decide +kernel
theorem dX0_copyFrom_12 : decode cX0_copyFrom 12 = .ok (.invokestatic 40, 3) := by decide +kernel
theorem dX0_copyFrom_15 : decode cX0_copyFrom 15 = .ok (.aload_n 1, 1) := by decide +kernel
theorem dX0_copyFrom_16 : decode cX0_copyFrom 16 = .ok (.getfield 15, 3) := by decide +kernel
theorem dX0_copyFrom_19 : decode cX0_copyFrom 19 = .ok (.iconst 0, 1) := by decide +kernel
theorem dX0_copyFrom_20 : decode cX0_copyFrom 20 = .ok (.aload_n 0, 1) := by decide +kernel
theorem dX0_copyFrom_21 : decode cX0_copyFrom 21 = .ok (.getfield 15, 3) := by decide +kernel
theorem dX0_copyFrom_24 : decode cX0_copyFrom 24 = .ok (.iconst 0, 1) := by decide +kernel
theorem dX0_copyFrom_25 : decode cX0_copyFrom 25 = .ok (.bipush 7, 2) := by decide +kernel
theorem dX0_copyFrom_27 : decode cX0_copyFrom 27 = .ok (.invokestatic 40, 3) := by decide +kernel
theorem dX0_copyFrom_30 : decode cX0_copyFrom 30 = .ok (.aload_n 1, 1) := by decide +kernel
theorem dX0_copyFrom_31 : decode cX0_copyFrom 31 = .ok (.getfield 18, 3) := by decide +kernel
theorem dX0_copyFrom_34 : decode cX0_copyFrom 34 = .ok (.iconst 0, 1) := by decide +kernel
theorem dX0_copyFrom_35 : decode cX0_copyFrom 35 = .ok (.aload_n 0, 1) := by decide +kernel
theorem dX0_copyFrom_36 : decode cX0_copyFrom 36 = .ok (.getfield 18, 3) := by decide +kernel
theorem dX0_copyFrom_39 : decode cX0_copyFrom 39 = .ok (.iconst 0, 1) := by decide +kernel
theorem dX0_copyFrom_40 : decode cX0_copyFrom 40 = .ok (.bipush 7, 2) := by decide +kernel
theorem dX0_copyFrom_42 : decode cX0_copyFrom 42 = .ok (.invokestatic 40, 3) := by decide +kernel
theorem dX0_copyFrom_45 : decode cX0_copyFrom 45 = .ok (.aload_n 1, 1) := by decide +kernel
theorem dX0_copyFrom_46 : decode cX0_copyFrom 46 = .ok (.getfield 21, 3) := by decide +kernel
theorem dX0_copyFrom_49 : decode cX0_copyFrom 49 = .ok (.iconst 0, 1) := by decide +kernel
theorem dX0_copyFrom_50 : decode cX0_copyFrom 50 = .ok (.aload_n 0, 1) := by decide +kernel
theorem dX0_copyFrom_51 : decode cX0_copyFrom 51 = .ok (.getfield 21, 3) := by decide +kernel
theorem dX0_copyFrom_54 : decode cX0_copyFrom 54 = .ok (.iconst 0, 1) := by decide +kernel
theorem dX0_copyFrom_55 : decode cX0_copyFrom 55 = .ok (.bipush 7, 2) := by decide +kernel
theorem dX0_copyFrom_57 : decode cX0_copyFrom 57 = .ok (.invokestatic 40, 3) := by decide +kernel
theorem dX0_copyFrom_60 : decode cX0_copyFrom 60 = .ok (.aload_n 1, 1) := by decide +kernel
theorem dX0_copyFrom_61 : decode cX0_copyFrom 61 = .ok (.getfield 24, 3) := by decide +kernel
theorem dX0_copyFrom_64 : decode cX0_copyFrom 64 = .ok (.iconst 0, 1) := by decide +kernel
theorem dX0_copyFrom_65 : decode cX0_copyFrom 65 = .ok (.aload_n 0, 1) := by decide +kernel
theorem dX0_copyFrom_66 : decode cX0_copyFrom 66 = .ok (.getfield 24, 3) := by decide +kernel
theorem dX0_copyFrom_69 : decode cX0_copyFrom 69 = .ok (.iconst 0, 1) := by decide +kernel
theorem dX0_copyFrom_70 : decode cX0_copyFrom 70 = .ok (.bipush 6, 2) := by decide +kernel
theorem dX0_copyFrom_72 : decode cX0_copyFrom 72 = .ok (.invokestatic 40, 3) := by decide +kernel
theorem dX0_copyFrom_75 : decode cX0_copyFrom 75 = .ok (.aload_n 1, 1) := by decide +kernel
theorem dX0_copyFrom_76 : decode cX0_copyFrom 76 = .ok (.getfield 27, 3) := by decide +kernel
theorem dX0_copyFrom_79 : decode cX0_copyFrom 79 = .ok (.iconst 0, 1) := by decide +kernel
theorem dX0_copyFrom_80 : decode cX0_copyFrom 80 = .ok (.aload_n 0, 1) := by decide +kernel
theorem dX0_copyFrom_81 : decode cX0_copyFrom 81 = .ok (.getfield 27, 3) := by decide +kernel
theorem dX0_copyFrom_84 : decode cX0_copyFrom 84 = .ok (.iconst 0, 1) := by decide +kernel
theorem dX0_copyFrom_85 : decode cX0_copyFrom 85 = .ok (.bipush 42, 2) := by decide +kernel
theorem dX0_copyFrom_87 : decode cX0_copyFrom 87 = .ok (.invokestatic 40, 3) := by decide +kernel
theorem dX0_copyFrom_90 : decode cX0_copyFrom 90 = .ok (.aload_n 0, 1) := by decide +kernel
theorem dX0_copyFrom_91 : decode cX0_copyFrom 91 = .ok (.aload_n 1, 1) := by decide +kernel
theorem dX0_copyFrom_92 : decode cX0_copyFrom 92 = .ok (.getfield 30, 3) := by decide +kernel
theorem dX0_copyFrom_95 : decode cX0_copyFrom 95 = .ok (.putfield 30, 3) := by decide +kernel
theorem dX0_copyFrom_98 : decode cX0_copyFrom 98 = .ok (.aload_n 0, 1) := by decide +kernel
theorem dX0_copyFrom_99 : decode cX0_copyFrom 99 = .ok (.aload_n 1, 1) := by decide +kernel
theorem dX0_copyFrom_100 : decode cX0_copyFrom 100 = .ok (.getfield 34, 3) := by decide +kernel
theorem dX0_copyFrom_103 : decode cX0_copyFrom 103 = .ok (.putfield 34, 3) := by decide +kernel
theorem dX0_copyFrom_106 : decode cX0_copyFrom 106 = .ok (.aload_n 0, 1) := by decide +kernel
theorem dX0_copyFrom_107 : decode cX0_copyFrom 107 = .ok (.aload_n 1, 1) := by decide +kernel
theorem dX0_copyFrom_108 : decode cX0_copyFrom 108 = .ok (.getfield 37, 3) := by decide +kernel
theorem dX0_copyFrom_111 : decode cX0_copyFrom 111 = .ok (.putfield 37, 3) := by decide +kernel
theorem dX0_copyFrom_114 : decode cX0_copyFrom 114 = .ok (.return_, 1) := by decide +kernel
set_option maxRecDepth 20000 in
theorem ggX0_addCourtier_X5_put : GoodIn wsX0_addCourtier wsX5_put := goodIn_r _ [8] (by decide +kernel) (by decide +kernel)
set_option maxRecDepth 20000 in
theorem gX0_addCourtier_X5_put_n46 : GoodIn wsX0_addCourtier (wsX5_put) := ggX0_addCourtier_X5_put
theorem dX0_addCourtier_0 : decode cX0_addCourtier 0 = .ok (.aload_n 0, 1) := by decide +kernel
theorem dX0_addCourtier_1 : decode cX0_addCourtier 1 = .ok (.getfield 30, 3) := by decide +kernel
theorem dX0_addCourtier_4 : decode cX0_addCourtier 4 = .ok (.bipush 7, 2) := by decide +kernel
theorem dX0_addCourtier_6 : decode cX0_addCourtier 6 = .ok (.if_icmp .lt 5, 3) := by decide +kernel
theorem dX0_addCourtier_9 : decode cX0_addCourtier 9 = .ok (.iconst 0, 1) := by decide +kernel
theorem dX0_addCourtier_10 : decode cX0_addCourtier 10 = .ok (.ireturn, 1) := by decide +kernel
theorem dX0_addCourtier_11 : decode cX0_addCourtier 11 = .ok (.aload_n 0, 1) := by decide +kernel
theorem dX0_addCourtier_12 : decode cX0_addCourtier 12 = .ok (.getfield 9, 3) := by decide +kernel
theorem dX0_addCourtier_15 : decode cX0_addCourtier 15 = .ok (.aload_n 0, 1) := by decide +kernel
theorem dX0_addCourtier_16 : decode cX0_addCourtier 16 = .ok (.getfield 30, 3) := by decide +kernel
theorem dX0_addCourtier_19 : decode cX0_addCourtier 19 = .ok (.iload_n 1, 1) := by decide +kernel
theorem dX0_addCourtier_20 : decode cX0_addCourtier 20 = .ok (.invokestatic 46, 3) := by decide +kernel
theorem dX0_addCourtier_23 : decode cX0_addCourtier 23 = .ok (.aload_n 0, 1) := by decide +kernel
theorem dX0_addCourtier_24 : decode cX0_addCourtier 24 = .ok (.getfield 15, 3) := by decide +kernel
theorem dX0_addCourtier_27 : decode cX0_addCourtier 27 = .ok (.aload_n 0, 1) := by decide +kernel
theorem dX0_addCourtier_28 : decode cX0_addCourtier 28 = .ok (.getfield 30, 3) := by decide +kernel
theorem dX0_addCourtier_31 : decode cX0_addCourtier 31 = .ok (.iload_n 2, 1) := by decide +kernel
theorem dX0_addCourtier_32 : decode cX0_addCourtier 32 = .ok (.invokestatic 46, 3) := by decide +kernel
theorem dX0_addCourtier_35 : decode cX0_addCourtier 35 = .ok (.aload_n 0, 1) := by decide +kernel
theorem dX0_addCourtier_36 : decode cX0_addCourtier 36 = .ok (.getfield 18, 3) := by decide +kernel
theorem dX0_addCourtier_39 : decode cX0_addCourtier 39 = .ok (.aload_n 0, 1) := by decide +kernel
theorem dX0_addCourtier_40 : decode cX0_addCourtier 40 = .ok (.getfield 30, 3) := by decide +kernel
theorem dX0_addCourtier_43 : decode cX0_addCourtier 43 = .ok (.aload_n 0, 1) := by decide +kernel
theorem dX0_addCourtier_44 : decode cX0_addCourtier 44 = .ok (.getfield 30, 3) := by decide +kernel
theorem dX0_addCourtier_47 : decode cX0_addCourtier 47 = .ok (.invokestatic 46, 3) := by decide +kernel
theorem dX0_addCourtier_50 : decode cX0_addCourtier 50 = .ok (.aload_n 0, 1) := by decide +kernel
theorem dX0_addCourtier_51 : decode cX0_addCourtier 51 = .ok (.getfield 21, 3) := by decide +kernel
theorem dX0_addCourtier_54 : decode cX0_addCourtier 54 = .ok (.aload_n 0, 1) := by decide +kernel
theorem dX0_addCourtier_55 : decode cX0_addCourtier 55 = .ok (.getfield 30, 3) := by decide +kernel
theorem dX0_addCourtier_58 : decode cX0_addCourtier 58 = .ok (.aload_n 0, 1) := by decide +kernel
theorem dX0_addCourtier_59 : decode cX0_addCourtier 59 = .ok (.getfield 30, 3) := by decide +kernel
theorem dX0_addCourtier_62 : decode cX0_addCourtier 62 = .ok (.invokestatic 46, 3) := by decide +kernel
theorem dX0_addCourtier_65 : decode cX0_addCourtier 65 = .ok (.aload_n 0, 1) := by decide +kernel
theorem dX0_addCourtier_66 : decode cX0_addCourtier 66 = .ok (.dup, 1) := by decide +kernel
theorem dX0_addCourtier_67 : decode cX0_addCourtier 67 = .ok (.getfield 30, 3) := by decide +kernel
theorem dX0_addCourtier_70 : decode cX0_addCourtier 70 = .ok (.iconst 1, 1) := by decide +kernel
theorem dX0_addCourtier_71 : decode cX0_addCourtier 71 = .ok (.iadd, 1) := by decide +kernel
theorem dX0_addCourtier_72 : decode cX0_addCourtier 72 = .ok (.putfield 30, 3) := by decide +kernel
theorem dX0_addCourtier_75 : decode cX0_addCourtier 75 = .ok (.iconst 1, 1) := by decide +kernel
theorem dX0_addCourtier_76 : decode cX0_addCourtier 76 = .ok (.ireturn, 1) := by decide +kernel
set_option maxRecDepth 20000 in
theorem ggX0_addNews_X0_isCourtier : GoodIn wsX0_addNews wsX0_isCourtier := goodIn_r _ [7, 8, 12, 13, 14, 15, 16, 17, 18, 19, 20] (by decide +kernel) (by decide +kernel)
set_option maxRecDepth 20000 in
theorem gX0_addNews_X0_isCourtier : GoodIn wsX0_addNews (wsV RX0 50 RX0 yX0_isCourtier wsX0_isCourtier) := goodIn_app (goodIn_of _ (by decide +kernel)) ggX0_addNews_X0_isCourtier
set_option maxRecDepth 20000 in
theorem ggX0_addNews_X5_put : GoodIn wsX0_addNews wsX5_put := goodIn_r _ [11] (by decide +kernel) (by decide +kernel)
set_option maxRecDepth 20000 in
theorem gX0_addNews_X5_put_n46 : GoodIn wsX0_addNews (wsX5_put) := ggX0_addNews_X5_put
theorem dX0_addNews_0 : decode cX0_addNews 0 = .ok (.aload_n 0, 1) := by decide +kernel
theorem dX0_addNews_1 : decode cX0_addNews 1 = .ok (.getfield 34, 3) := by decide +kernel
theorem dX0_addNews_4 : decode cX0_addNews 4 = .ok (.bipush 6, 2) := by decide +kernel
theorem dX0_addNews_6 : decode cX0_addNews 6 = .ok (.if_icmp .ge 11, 3) := by decide +kernel
theorem dX0_addNews_9 : decode cX0_addNews 9 = .ok (.aload_n 0, 1) := by decide +kernel
theorem dX0_addNews_10 : decode cX0_addNews 10 = .ok (.iload_n 1, 1) := by decide +kernel
theorem dX0_addNews_11 : decode cX0_addNews 11 = .ok (.invokevirtual 50, 3) := by decide +kernel
theorem dX0_addNews_14 : decode cX0_addNews 14 = .ok (.ifCond .ne 5, 3) := by decide +kernel
theorem dX0_addNews_17 : decode cX0_addNews 17 = .ok (.iconst 0, 1) := by decide +kernel
theorem dX0_addNews_18 : decode cX0_addNews 18 = .ok (.ireturn, 1) := by decide +kernel
theorem dX0_addNews_19 : decode cX0_addNews 19 = .ok (.aload_n 0, 1) := by decide +kernel
theorem dX0_addNews_20 : decode cX0_addNews 20 = .ok (.getfield 24, 3) := by decide +kernel
theorem dX0_addNews_23 : decode cX0_addNews 23 = .ok (.aload_n 0, 1) := by decide +kernel
theorem dX0_addNews_24 : decode cX0_addNews 24 = .ok (.getfield 34, 3) := by decide +kernel
theorem dX0_addNews_27 : decode cX0_addNews 27 = .ok (.iload_n 1, 1) := by decide +kernel
theorem dX0_addNews_28 : decode cX0_addNews 28 = .ok (.invokestatic 46, 3) := by decide +kernel
theorem dX0_addNews_31 : decode cX0_addNews 31 = .ok (.aload_n 0, 1) := by decide +kernel
theorem dX0_addNews_32 : decode cX0_addNews 32 = .ok (.dup, 1) := by decide +kernel
theorem dX0_addNews_33 : decode cX0_addNews 33 = .ok (.getfield 34, 3) := by decide +kernel
theorem dX0_addNews_36 : decode cX0_addNews 36 = .ok (.iconst 1, 1) := by decide +kernel
theorem dX0_addNews_37 : decode cX0_addNews 37 = .ok (.iadd, 1) := by decide +kernel
theorem dX0_addNews_38 : decode cX0_addNews 38 = .ok (.putfield 34, 3) := by decide +kernel
theorem dX0_addNews_41 : decode cX0_addNews 41 = .ok (.iconst 1, 1) := by decide +kernel
theorem dX0_addNews_42 : decode cX0_addNews 42 = .ok (.ireturn, 1) := by decide +kernel
set_option maxRecDepth 20000 in
theorem ggX0_settleHeeds_X5_of : GoodIn wsX0_settleHeeds wsX5_of := goodIn_r _ [5] (by decide +kernel) (by decide +kernel)
set_option maxRecDepth 20000 in
theorem gX0_settleHeeds_X5_of_n54 : GoodIn wsX0_settleHeeds (wsX5_of) := ggX0_settleHeeds_X5_of
set_option maxRecDepth 20000 in
theorem ggX0_settleHeeds_X0_isCourtier : GoodIn wsX0_settleHeeds wsX0_isCourtier := goodIn_r _ [10, 1, 13, 14, 15, 16, 17, 18, 19, 20, 21] (by decide +kernel) (by decide +kernel)
set_option maxRecDepth 20000 in
theorem gX0_settleHeeds_X0_isCourtier : GoodIn wsX0_settleHeeds (wsV RX0 50 RX0 yX0_isCourtier wsX0_isCourtier) := goodIn_app (goodIn_of _ (by decide +kernel)) ggX0_settleHeeds_X0_isCourtier
set_option maxRecDepth 20000 in
theorem ggX0_settleHeeds_X5_put : GoodIn wsX0_settleHeeds wsX5_put := goodIn_r _ [12] (by decide +kernel) (by decide +kernel)
set_option maxRecDepth 20000 in
theorem gX0_settleHeeds_X5_put_n46 : GoodIn wsX0_settleHeeds (wsX5_put) := ggX0_settleHeeds_X5_put
theorem dX0_settleHeeds_0 : decode cX0_settleHeeds 0 = .ok (.iconst 0, 1) := by decide +kernel
theorem dX0_settleHeeds_1 : decode cX0_settleHeeds 1 = .ok (.istore_n 1, 1) := by decide +kernel
theorem dX0_settleHeeds_2 : decode cX0_settleHeeds 2 = .ok (.iload_n 1, 1) := by decide +kernel
theorem dX0_settleHeeds_3 : decode cX0_settleHeeds 3 = .ok (.aload_n 0, 1) := by decide +kernel
theorem dX0_settleHeeds_4 : decode cX0_settleHeeds 4 = .ok (.getfield 30, 3) := by decide +kernel
theorem dX0_settleHeeds_7 : decode cX0_settleHeeds 7 = .ok (.if_icmp .ge 41, 3) := by decide +kernel
theorem dX0_settleHeeds_10 : decode cX0_settleHeeds 10 = .ok (.aload_n 0, 1) := by decide +kernel
theorem dX0_settleHeeds_11 : decode cX0_settleHeeds 11 = .ok (.getfield 15, 3) := by decide +kernel
theorem dX0_settleHeeds_14 : decode cX0_settleHeeds 14 = .ok (.iload_n 1, 1) := by decide +kernel
theorem dX0_settleHeeds_15 : decode cX0_settleHeeds 15 = .ok (.invokestatic 54, 3) := by decide +kernel
theorem dX0_settleHeeds_18 : decode cX0_settleHeeds 18 = .ok (.istore_n 2, 1) := by decide +kernel
theorem dX0_settleHeeds_19 : decode cX0_settleHeeds 19 = .ok (.iload_n 2, 1) := by decide +kernel
theorem dX0_settleHeeds_20 : decode cX0_settleHeeds 20 = .ok (.iload_n 1, 1) := by decide +kernel
theorem dX0_settleHeeds_21 : decode cX0_settleHeeds 21 = .ok (.if_icmp .eq 11, 3) := by decide +kernel
theorem dX0_settleHeeds_24 : decode cX0_settleHeeds 24 = .ok (.aload_n 0, 1) := by decide +kernel
theorem dX0_settleHeeds_25 : decode cX0_settleHeeds 25 = .ok (.iload_n 2, 1) := by decide +kernel
theorem dX0_settleHeeds_26 : decode cX0_settleHeeds 26 = .ok (.invokevirtual 50, 3) := by decide +kernel
theorem dX0_settleHeeds_29 : decode cX0_settleHeeds 29 = .ok (.ifCond .ne 13, 3) := by decide +kernel
theorem dX0_settleHeeds_32 : decode cX0_settleHeeds 32 = .ok (.aload_n 0, 1) := by decide +kernel
theorem dX0_settleHeeds_33 : decode cX0_settleHeeds 33 = .ok (.getfield 15, 3) := by decide +kernel
theorem dX0_settleHeeds_36 : decode cX0_settleHeeds 36 = .ok (.iload_n 1, 1) := by decide +kernel
theorem dX0_settleHeeds_37 : decode cX0_settleHeeds 37 = .ok (.bipush (-4), 2) := by decide +kernel
theorem dX0_settleHeeds_39 : decode cX0_settleHeeds 39 = .ok (.invokestatic 46, 3) := by decide +kernel
theorem dX0_settleHeeds_42 : decode cX0_settleHeeds 42 = .ok (.iinc 1 1, 3) := by decide +kernel
theorem dX0_settleHeeds_45 : decode cX0_settleHeeds 45 = .ok (.goto (-43), 3) := by decide +kernel
theorem dX0_settleHeeds_48 : decode cX0_settleHeeds 48 = .ok (.return_, 1) := by decide +kernel
theorem dX0_isCourtier_0 : decode cX0_isCourtier 0 = .ok (.iload_n 1, 1) := by decide +kernel
theorem dX0_isCourtier_1 : decode cX0_isCourtier 1 = .ok (.ifCond .lt 15, 3) := by decide +kernel
theorem dX0_isCourtier_4 : decode cX0_isCourtier 4 = .ok (.iload_n 1, 1) := by decide +kernel
theorem dX0_isCourtier_5 : decode cX0_isCourtier 5 = .ok (.aload_n 0, 1) := by decide +kernel
theorem dX0_isCourtier_6 : decode cX0_isCourtier 6 = .ok (.getfield 30, 3) := by decide +kernel
theorem dX0_isCourtier_9 : decode cX0_isCourtier 9 = .ok (.if_icmp .ge 7, 3) := by decide +kernel
theorem dX0_isCourtier_12 : decode cX0_isCourtier 12 = .ok (.iconst 1, 1) := by decide +kernel
theorem dX0_isCourtier_13 : decode cX0_isCourtier 13 = .ok (.goto 4, 3) := by decide +kernel
theorem dX0_isCourtier_16 : decode cX0_isCourtier 16 = .ok (.iconst 0, 1) := by decide +kernel
theorem dX0_isCourtier_17 : decode cX0_isCourtier 17 = .ok (.ireturn, 1) := by decide +kernel
theorem dX0_isNews_0 : decode cX0_isNews 0 = .ok (.iload_n 1, 1) := by decide +kernel
theorem dX0_isNews_1 : decode cX0_isNews 1 = .ok (.ifCond .lt 15, 3) := by decide +kernel
theorem dX0_isNews_4 : decode cX0_isNews 4 = .ok (.iload_n 1, 1) := by decide +kernel
theorem dX0_isNews_5 : decode cX0_isNews 5 = .ok (.aload_n 0, 1) := by decide +kernel
theorem dX0_isNews_6 : decode cX0_isNews 6 = .ok (.getfield 34, 3) := by decide +kernel
theorem dX0_isNews_9 : decode cX0_isNews 9 = .ok (.if_icmp .ge 7, 3) := by decide +kernel
theorem dX0_isNews_12 : decode cX0_isNews 12 = .ok (.iconst 1, 1) := by decide +kernel
theorem dX0_isNews_13 : decode cX0_isNews 13 = .ok (.goto 4, 3) := by decide +kernel
theorem dX0_isNews_16 : decode cX0_isNews 16 = .ok (.iconst 0, 1) := by decide +kernel
theorem dX0_isNews_17 : decode cX0_isNews 17 = .ok (.ireturn, 1) := by decide +kernel
set_option maxRecDepth 20000 in
theorem ggX0_isKnown_X5_of : GoodIn wsX0_isKnown wsX5_of := goodIn_r _ [4] (by decide +kernel) (by decide +kernel)
set_option maxRecDepth 20000 in
theorem gX0_isKnown_X5_of_n54 : GoodIn wsX0_isKnown (wsX5_of) := ggX0_isKnown_X5_of
theorem dX0_isKnown_0 : decode cX0_isKnown 0 = .ok (.aload_n 0, 1) := by decide +kernel
theorem dX0_isKnown_1 : decode cX0_isKnown 1 = .ok (.getfield 24, 3) := by decide +kernel
theorem dX0_isKnown_4 : decode cX0_isKnown 4 = .ok (.iload_n 1, 1) := by decide +kernel
theorem dX0_isKnown_5 : decode cX0_isKnown 5 = .ok (.invokestatic 54, 3) := by decide +kernel
theorem dX0_isKnown_8 : decode cX0_isKnown 8 = .ok (.bipush 9, 2) := by decide +kernel
theorem dX0_isKnown_10 : decode cX0_isKnown 10 = .ok (.if_icmp .ne 7, 3) := by decide +kernel
theorem dX0_isKnown_13 : decode cX0_isKnown 13 = .ok (.iconst 1, 1) := by decide +kernel
theorem dX0_isKnown_14 : decode cX0_isKnown 14 = .ok (.goto 4, 3) := by decide +kernel
theorem dX0_isKnown_17 : decode cX0_isKnown 17 = .ok (.iconst 0, 1) := by decide +kernel
theorem dX0_isKnown_18 : decode cX0_isKnown 18 = .ok (.ireturn, 1) := by decide +kernel
set_option maxRecDepth 20000 in
theorem ggX0_believes_X5_of : GoodIn wsX0_believes wsX5_of := goodIn_r _ [4] (by decide +kernel) (by decide +kernel)
set_option maxRecDepth 20000 in
theorem gX0_believes_X5_of_n54 : GoodIn wsX0_believes (wsX5_of) := ggX0_believes_X5_of
theorem dX0_believes_0 : decode cX0_believes 0 = .ok (.aload_n 0, 1) := by decide +kernel
theorem dX0_believes_1 : decode cX0_believes 1 = .ok (.getfield 27, 3) := by decide +kernel
theorem dX0_believes_4 : decode cX0_believes 4 = .ok (.iload_n 2, 1) := by decide +kernel
theorem dX0_believes_5 : decode cX0_believes 5 = .ok (.bipush 7, 2) := by decide +kernel
theorem dX0_believes_7 : decode cX0_believes 7 = .ok (.imul, 1) := by decide +kernel
theorem dX0_believes_8 : decode cX0_believes 8 = .ok (.iload_n 1, 1) := by decide +kernel
theorem dX0_believes_9 : decode cX0_believes 9 = .ok (.iadd, 1) := by decide +kernel
theorem dX0_believes_10 : decode cX0_believes 10 = .ok (.invokestatic 54, 3) := by decide +kernel
theorem dX0_believes_13 : decode cX0_believes 13 = .ok (.ireturn, 1) := by decide +kernel
set_option maxRecDepth 20000 in
theorem ggX0_setBelief_X5_put : GoodIn wsX0_setBelief wsX5_put := goodIn_r _ [4] (by decide +kernel) (by decide +kernel)
set_option maxRecDepth 20000 in
theorem gX0_setBelief_X5_put_n46 : GoodIn wsX0_setBelief (wsX5_put) := ggX0_setBelief_X5_put
theorem dX0_setBelief_0 : decode cX0_setBelief 0 = .ok (.aload_n 0, 1) := by decide +kernel
theorem dX0_setBelief_1 : decode cX0_setBelief 1 = .ok (.getfield 27, 3) := by decide +kernel
theorem dX0_setBelief_4 : decode cX0_setBelief 4 = .ok (.iload_n 2, 1) := by decide +kernel
theorem dX0_setBelief_5 : decode cX0_setBelief 5 = .ok (.bipush 7, 2) := by decide +kernel
theorem dX0_setBelief_7 : decode cX0_setBelief 7 = .ok (.imul, 1) := by decide +kernel
theorem dX0_setBelief_8 : decode cX0_setBelief 8 = .ok (.iload_n 1, 1) := by decide +kernel
theorem dX0_setBelief_9 : decode cX0_setBelief 9 = .ok (.iadd, 1) := by decide +kernel
theorem dX0_setBelief_10 : decode cX0_setBelief 10 = .ok (.iload_n 3, 1) := by decide +kernel
theorem dX0_setBelief_11 : decode cX0_setBelief 11 = .ok (.invokestatic 46, 3) := by decide +kernel
theorem dX0_setBelief_14 : decode cX0_setBelief 14 = .ok (.return_, 1) := by decide +kernel
set_option maxRecDepth 20000 in
theorem ggX0_doubters_X0_believes : GoodIn wsX0_doubters wsX0_believes := goodIn_r _ [6, 7, 8, 9, 10, 11, 12, 13, 14, 15, 16, 17, 18, 19] (by decide +kernel) (by decide +kernel)
set_option maxRecDepth 20000 in
theorem gX0_doubters_X0_believes : GoodIn wsX0_doubters (wsV RX0 58 RX0 yX0_believes wsX0_believes) := goodIn_app (goodIn_of _ (by decide +kernel)) ggX0_doubters_X0_believes
theorem dX0_doubters_0 : decode cX0_doubters 0 = .ok (.iconst 0, 1) := by decide +kernel
theorem dX0_doubters_1 : decode cX0_doubters 1 = .ok (.istore_n 2, 1) := by decide +kernel
theorem dX0_doubters_2 : decode cX0_doubters 2 = .ok (.iconst 0, 1) := by decide +kernel
theorem dX0_doubters_3 : decode cX0_doubters 3 = .ok (.istore_n 3, 1) := by decide +kernel
theorem dX0_doubters_4 : decode cX0_doubters 4 = .ok (.iload_n 3, 1) := by decide +kernel
theorem dX0_doubters_5 : decode cX0_doubters 5 = .ok (.aload_n 0, 1) := by decide +kernel
theorem dX0_doubters_6 : decode cX0_doubters 6 = .ok (.getfield 30, 3) := by decide +kernel
theorem dX0_doubters_9 : decode cX0_doubters 9 = .ok (.if_icmp .ge 25, 3) := by decide +kernel
theorem dX0_doubters_12 : decode cX0_doubters 12 = .ok (.aload_n 0, 1) := by decide +kernel
theorem dX0_doubters_13 : decode cX0_doubters 13 = .ok (.iload_n 3, 1) := by decide +kernel
theorem dX0_doubters_14 : decode cX0_doubters 14 = .ok (.iload_n 1, 1) := by decide +kernel
theorem dX0_doubters_15 : decode cX0_doubters 15 = .ok (.invokevirtual 58, 3) := by decide +kernel
theorem dX0_doubters_18 : decode cX0_doubters 18 = .ok (.iconst 4, 1) := by decide +kernel
theorem dX0_doubters_19 : decode cX0_doubters 19 = .ok (.if_icmp .gt 9, 3) := by decide +kernel
theorem dX0_doubters_22 : decode cX0_doubters 22 = .ok (.iload_n 2, 1) := by decide +kernel
theorem dX0_doubters_23 : decode cX0_doubters 23 = .ok (.iconst 1, 1) := by decide +kernel
theorem dX0_doubters_24 : decode cX0_doubters 24 = .ok (.iload_n 3, 1) := by decide +kernel
theorem dX0_doubters_25 : decode cX0_doubters 25 = .ok (.ishl, 1) := by decide +kernel
theorem dX0_doubters_26 : decode cX0_doubters 26 = .ok (.ior, 1) := by decide +kernel
theorem dX0_doubters_27 : decode cX0_doubters 27 = .ok (.istore_n 2, 1) := by decide +kernel
theorem dX0_doubters_28 : decode cX0_doubters 28 = .ok (.iinc 3 1, 3) := by decide +kernel
theorem dX0_doubters_31 : decode cX0_doubters 31 = .ok (.goto (-27), 3) := by decide +kernel
theorem dX0_doubters_34 : decode cX0_doubters 34 = .ok (.iload_n 2, 1) := by decide +kernel
theorem dX0_doubters_35 : decode cX0_doubters 35 = .ok (.ireturn, 1) := by decide +kernel
set_option maxRecDepth 20000 in
theorem ggX0_newsDoubted_X0_believes : GoodIn wsX0_newsDoubted wsX0_believes := goodIn_r _ [6, 7, 8, 9, 10, 11, 12, 13, 14, 15, 16, 17, 18, 19] (by decide +kernel) (by decide +kernel)
set_option maxRecDepth 20000 in
theorem gX0_newsDoubted_X0_believes : GoodIn wsX0_newsDoubted (wsV RX0 58 RX0 yX0_believes wsX0_believes) := goodIn_app (goodIn_of _ (by decide +kernel)) ggX0_newsDoubted_X0_believes
theorem dX0_newsDoubted_0 : decode cX0_newsDoubted 0 = .ok (.iconst 0, 1) := by decide +kernel
theorem dX0_newsDoubted_1 : decode cX0_newsDoubted 1 = .ok (.istore_n 2, 1) := by decide +kernel
theorem dX0_newsDoubted_2 : decode cX0_newsDoubted 2 = .ok (.iconst 0, 1) := by decide +kernel
theorem dX0_newsDoubted_3 : decode cX0_newsDoubted 3 = .ok (.istore_n 3, 1) := by decide +kernel
theorem dX0_newsDoubted_4 : decode cX0_newsDoubted 4 = .ok (.iload_n 3, 1) := by decide +kernel
theorem dX0_newsDoubted_5 : decode cX0_newsDoubted 5 = .ok (.aload_n 0, 1) := by decide +kernel
theorem dX0_newsDoubted_6 : decode cX0_newsDoubted 6 = .ok (.getfield 34, 3) := by decide +kernel
theorem dX0_newsDoubted_9 : decode cX0_newsDoubted 9 = .ok (.if_icmp .ge 25, 3) := by decide +kernel
theorem dX0_newsDoubted_12 : decode cX0_newsDoubted 12 = .ok (.aload_n 0, 1) := by decide +kernel
theorem dX0_newsDoubted_13 : decode cX0_newsDoubted 13 = .ok (.iload_n 1, 1) := by decide +kernel
theorem dX0_newsDoubted_14 : decode cX0_newsDoubted 14 = .ok (.iload_n 3, 1) := by decide +kernel
theorem dX0_newsDoubted_15 : decode cX0_newsDoubted 15 = .ok (.invokevirtual 58, 3) := by decide +kernel
theorem dX0_newsDoubted_18 : decode cX0_newsDoubted 18 = .ok (.iconst 4, 1) := by decide +kernel
theorem dX0_newsDoubted_19 : decode cX0_newsDoubted 19 = .ok (.if_icmp .gt 9, 3) := by decide +kernel
theorem dX0_newsDoubted_22 : decode cX0_newsDoubted 22 = .ok (.iload_n 2, 1) := by decide +kernel
theorem dX0_newsDoubted_23 : decode cX0_newsDoubted 23 = .ok (.iconst 1, 1) := by decide +kernel
theorem dX0_newsDoubted_24 : decode cX0_newsDoubted 24 = .ok (.iload_n 3, 1) := by decide +kernel
theorem dX0_newsDoubted_25 : decode cX0_newsDoubted 25 = .ok (.ishl, 1) := by decide +kernel
theorem dX0_newsDoubted_26 : decode cX0_newsDoubted 26 = .ok (.ior, 1) := by decide +kernel
theorem dX0_newsDoubted_27 : decode cX0_newsDoubted 27 = .ok (.istore_n 2, 1) := by decide +kernel
theorem dX0_newsDoubted_28 : decode cX0_newsDoubted 28 = .ok (.iinc 3 1, 3) := by decide +kernel
theorem dX0_newsDoubted_31 : decode cX0_newsDoubted 31 = .ok (.goto (-27), 3) := by decide +kernel
theorem dX0_newsDoubted_34 : decode cX0_newsDoubted 34 = .ok (.iload_n 2, 1) := by decide +kernel
theorem dX0_newsDoubted_35 : decode cX0_newsDoubted 35 = .ok (.ireturn, 1) := by decide +kernel
set_option maxRecDepth 20000 in
theorem ggX0_newsHeld_X5_of : GoodIn wsX0_newsHeld wsX5_of := goodIn_r _ [5] (by decide +kernel) (by decide +kernel)
set_option maxRecDepth 20000 in
theorem gX0_newsHeld_X5_of_n54 : GoodIn wsX0_newsHeld (wsX5_of) := ggX0_newsHeld_X5_of
theorem dX0_newsHeld_0 : decode cX0_newsHeld 0 = .ok (.iconst 0, 1) := by decide +kernel
theorem dX0_newsHeld_1 : decode cX0_newsHeld 1 = .ok (.istore_n 2, 1) := by decide +kernel
theorem dX0_newsHeld_2 : decode cX0_newsHeld 2 = .ok (.iconst 0, 1) := by decide +kernel
theorem dX0_newsHeld_3 : decode cX0_newsHeld 3 = .ok (.istore_n 3, 1) := by decide +kernel
theorem dX0_newsHeld_4 : decode cX0_newsHeld 4 = .ok (.iload_n 3, 1) := by decide +kernel
theorem dX0_newsHeld_5 : decode cX0_newsHeld 5 = .ok (.aload_n 0, 1) := by decide +kernel
theorem dX0_newsHeld_6 : decode cX0_newsHeld 6 = .ok (.getfield 34, 3) := by decide +kernel
theorem dX0_newsHeld_9 : decode cX0_newsHeld 9 = .ok (.if_icmp .ge 27, 3) := by decide +kernel
theorem dX0_newsHeld_12 : decode cX0_newsHeld 12 = .ok (.aload_n 0, 1) := by decide +kernel
theorem dX0_newsHeld_13 : decode cX0_newsHeld 13 = .ok (.getfield 24, 3) := by decide +kernel
theorem dX0_newsHeld_16 : decode cX0_newsHeld 16 = .ok (.iload_n 3, 1) := by decide +kernel
theorem dX0_newsHeld_17 : decode cX0_newsHeld 17 = .ok (.invokestatic 54, 3) := by decide +kernel
theorem dX0_newsHeld_20 : decode cX0_newsHeld 20 = .ok (.iload_n 1, 1) := by decide +kernel
theorem dX0_newsHeld_21 : decode cX0_newsHeld 21 = .ok (.if_icmp .ne 9, 3) := by decide +kernel
theorem dX0_newsHeld_24 : decode cX0_newsHeld 24 = .ok (.iload_n 2, 1) := by decide +kernel
theorem dX0_newsHeld_25 : decode cX0_newsHeld 25 = .ok (.iconst 1, 1) := by decide +kernel
theorem dX0_newsHeld_26 : decode cX0_newsHeld 26 = .ok (.iload_n 3, 1) := by decide +kernel
theorem dX0_newsHeld_27 : decode cX0_newsHeld 27 = .ok (.ishl, 1) := by decide +kernel
theorem dX0_newsHeld_28 : decode cX0_newsHeld 28 = .ok (.ior, 1) := by decide +kernel
theorem dX0_newsHeld_29 : decode cX0_newsHeld 29 = .ok (.istore_n 2, 1) := by decide +kernel
theorem dX0_newsHeld_30 : decode cX0_newsHeld 30 = .ok (.iinc 3 1, 3) := by decide +kernel
theorem dX0_newsHeld_33 : decode cX0_newsHeld 33 = .ok (.goto (-29), 3) := by decide +kernel
theorem dX0_newsHeld_36 : decode cX0_newsHeld 36 = .ok (.iload_n 2, 1) := by decide +kernel
theorem dX0_newsHeld_37 : decode cX0_newsHeld 37 = .ok (.ireturn, 1) := by decide +kernel
set_option maxRecDepth 20000 in
theorem ggX0_knownInAll_X0_isKnown : GoodIn wsX0_knownInAll wsX0_isKnown := goodIn_r _ [6, 7, 8, 9, 10, 11, 12, 13, 14, 15, 16, 17, 18, 19] (by decide +kernel) (by decide +kernel)
set_option maxRecDepth 20000 in
theorem gX0_knownInAll_X0_isKnown : GoodIn wsX0_knownInAll (wsV RX0 62 RX0 yX0_isKnown wsX0_isKnown) := goodIn_app (goodIn_of _ (by decide +kernel)) ggX0_knownInAll_X0_isKnown
theorem dX0_knownInAll_0 : decode cX0_knownInAll 0 = .ok (.iconst 0, 1) := by decide +kernel
theorem dX0_knownInAll_1 : decode cX0_knownInAll 1 = .ok (.istore_n 1, 1) := by decide +kernel
theorem dX0_knownInAll_2 : decode cX0_knownInAll 2 = .ok (.iconst 0, 1) := by decide +kernel
theorem dX0_knownInAll_3 : decode cX0_knownInAll 3 = .ok (.istore_n 2, 1) := by decide +kernel
theorem dX0_knownInAll_4 : decode cX0_knownInAll 4 = .ok (.iload_n 2, 1) := by decide +kernel
theorem dX0_knownInAll_5 : decode cX0_knownInAll 5 = .ok (.aload_n 0, 1) := by decide +kernel
theorem dX0_knownInAll_6 : decode cX0_knownInAll 6 = .ok (.getfield 34, 3) := by decide +kernel
theorem dX0_knownInAll_9 : decode cX0_knownInAll 9 = .ok (.if_icmp .ge 25, 3) := by decide +kernel
theorem dX0_knownInAll_12 : decode cX0_knownInAll 12 = .ok (.iload_n 1, 1) := by decide +kernel
theorem dX0_knownInAll_13 : decode cX0_knownInAll 13 = .ok (.aload_n 0, 1) := by decide +kernel
theorem dX0_knownInAll_14 : decode cX0_knownInAll 14 = .ok (.iload_n 2, 1) := by decide +kernel
theorem dX0_knownInAll_15 : decode cX0_knownInAll 15 = .ok (.invokevirtual 62, 3) := by decide +kernel
theorem dX0_knownInAll_18 : decode cX0_knownInAll 18 = .ok (.ifCond .eq 7, 3) := by decide +kernel
theorem dX0_knownInAll_21 : decode cX0_knownInAll 21 = .ok (.iconst 1, 1) := by decide +kernel
theorem dX0_knownInAll_22 : decode cX0_knownInAll 22 = .ok (.goto 4, 3) := by decide +kernel
theorem dX0_knownInAll_25 : decode cX0_knownInAll 25 = .ok (.iconst 0, 1) := by decide +kernel
theorem dX0_knownInAll_26 : decode cX0_knownInAll 26 = .ok (.iadd, 1) := by decide +kernel
theorem dX0_knownInAll_27 : decode cX0_knownInAll 27 = .ok (.istore_n 1, 1) := by decide +kernel
theorem dX0_knownInAll_28 : decode cX0_knownInAll 28 = .ok (.iinc 2 1, 3) := by decide +kernel
theorem dX0_knownInAll_31 : decode cX0_knownInAll 31 = .ok (.goto (-27), 3) := by decide +kernel
theorem dX0_knownInAll_34 : decode cX0_knownInAll 34 = .ok (.iload_n 1, 1) := by decide +kernel
theorem dX0_knownInAll_35 : decode cX0_knownInAll 35 = .ok (.ireturn, 1) := by decide +kernel
set_option maxRecDepth 20000 in
theorem ggX0_beliefsInAll_X0_believes : GoodIn wsX0_beliefsInAll wsX0_believes := goodIn_r _ [7, 8, 9, 10, 11, 12, 13, 14, 15, 16, 17, 18, 19, 20] (by decide +kernel) (by decide +kernel)
set_option maxRecDepth 20000 in
theorem gX0_beliefsInAll_X0_believes : GoodIn wsX0_beliefsInAll (wsV RX0 58 RX0 yX0_believes wsX0_believes) := goodIn_app (goodIn_of _ (by decide +kernel)) ggX0_beliefsInAll_X0_believes
theorem dX0_beliefsInAll_0 : decode cX0_beliefsInAll 0 = .ok (.iconst 0, 1) := by decide +kernel
theorem dX0_beliefsInAll_1 : decode cX0_beliefsInAll 1 = .ok (.istore_n 1, 1) := by decide +kernel
theorem dX0_beliefsInAll_2 : decode cX0_beliefsInAll 2 = .ok (.iconst 0, 1) := by decide +kernel
theorem dX0_beliefsInAll_3 : decode cX0_beliefsInAll 3 = .ok (.istore_n 2, 1) := by decide +kernel
theorem dX0_beliefsInAll_4 : decode cX0_beliefsInAll 4 = .ok (.iload_n 2, 1) := by decide +kernel
theorem dX0_beliefsInAll_5 : decode cX0_beliefsInAll 5 = .ok (.aload_n 0, 1) := by decide +kernel
theorem dX0_beliefsInAll_6 : decode cX0_beliefsInAll 6 = .ok (.getfield 34, 3) := by decide +kernel
theorem dX0_beliefsInAll_9 : decode cX0_beliefsInAll 9 = .ok (.if_icmp .ge 34, 3) := by decide +kernel
theorem dX0_beliefsInAll_12 : decode cX0_beliefsInAll 12 = .ok (.iconst 0, 1) := by decide +kernel
theorem dX0_beliefsInAll_13 : decode cX0_beliefsInAll 13 = .ok (.istore_n 3, 1) := by decide +kernel
theorem dX0_beliefsInAll_14 : decode cX0_beliefsInAll 14 = .ok (.iload_n 3, 1) := by decide +kernel
theorem dX0_beliefsInAll_15 : decode cX0_beliefsInAll 15 = .ok (.aload_n 0, 1) := by decide +kernel
theorem dX0_beliefsInAll_16 : decode cX0_beliefsInAll 16 = .ok (.getfield 30, 3) := by decide +kernel
theorem dX0_beliefsInAll_19 : decode cX0_beliefsInAll 19 = .ok (.if_icmp .ge 18, 3) := by decide +kernel
theorem dX0_beliefsInAll_22 : decode cX0_beliefsInAll 22 = .ok (.iload_n 1, 1) := by decide +kernel
theorem dX0_beliefsInAll_23 : decode cX0_beliefsInAll 23 = .ok (.aload_n 0, 1) := by decide +kernel
theorem dX0_beliefsInAll_24 : decode cX0_beliefsInAll 24 = .ok (.iload_n 3, 1) := by decide +kernel
theorem dX0_beliefsInAll_25 : decode cX0_beliefsInAll 25 = .ok (.iload_n 2, 1) := by decide +kernel
theorem dX0_beliefsInAll_26 : decode cX0_beliefsInAll 26 = .ok (.invokevirtual 58, 3) := by decide +kernel
theorem dX0_beliefsInAll_29 : decode cX0_beliefsInAll 29 = .ok (.iadd, 1) := by decide +kernel
theorem dX0_beliefsInAll_30 : decode cX0_beliefsInAll 30 = .ok (.istore_n 1, 1) := by decide +kernel
theorem dX0_beliefsInAll_31 : decode cX0_beliefsInAll 31 = .ok (.iinc 3 1, 3) := by decide +kernel
theorem dX0_beliefsInAll_34 : decode cX0_beliefsInAll 34 = .ok (.goto (-20), 3) := by decide +kernel
theorem dX0_beliefsInAll_37 : decode cX0_beliefsInAll 37 = .ok (.iinc 2 1, 3) := by decide +kernel
theorem dX0_beliefsInAll_40 : decode cX0_beliefsInAll 40 = .ok (.goto (-36), 3) := by decide +kernel
theorem dX0_beliefsInAll_43 : decode cX0_beliefsInAll 43 = .ok (.iload_n 1, 1) := by decide +kernel
theorem dX0_beliefsInAll_44 : decode cX0_beliefsInAll 44 = .ok (.ireturn, 1) := by decide +kernel
set_option maxRecDepth 20000 in
theorem ggX0_changePlaces_X5_of : GoodIn wsX0_changePlaces wsX5_of := goodIn_r _ [5] (by decide +kernel) (by decide +kernel)
set_option maxRecDepth 20000 in
theorem gX0_changePlaces_X5_of_n54 : GoodIn wsX0_changePlaces (wsX5_of) := ggX0_changePlaces_X5_of
set_option maxRecDepth 20000 in
theorem ggX0_changePlaces_X5_put : GoodIn wsX0_changePlaces wsX5_put := goodIn_r _ [7] (by decide +kernel) (by decide +kernel)
set_option maxRecDepth 20000 in
theorem gX0_changePlaces_X5_put_n46 : GoodIn wsX0_changePlaces (wsX5_put) := ggX0_changePlaces_X5_put
theorem dX0_changePlaces_0 : decode cX0_changePlaces 0 = .ok (.aload_n 0, 1) := by decide +kernel
theorem dX0_changePlaces_1 : decode cX0_changePlaces 1 = .ok (.getfield 18, 3) := by decide +kernel
theorem dX0_changePlaces_4 : decode cX0_changePlaces 4 = .ok (.iload_n 1, 1) := by decide +kernel
theorem dX0_changePlaces_5 : decode cX0_changePlaces 5 = .ok (.invokestatic 54, 3) := by decide +kernel
theorem dX0_changePlaces_8 : decode cX0_changePlaces 8 = .ok (.istore_n 3, 1) := by decide +kernel
theorem dX0_changePlaces_9 : decode cX0_changePlaces 9 = .ok (.aload_n 0, 1) := by decide +kernel
theorem dX0_changePlaces_10 : decode cX0_changePlaces 10 = .ok (.getfield 18, 3) := by decide +kernel
theorem dX0_changePlaces_13 : decode cX0_changePlaces 13 = .ok (.iload_n 1, 1) := by decide +kernel
theorem dX0_changePlaces_14 : decode cX0_changePlaces 14 = .ok (.aload_n 0, 1) := by decide +kernel
theorem dX0_changePlaces_15 : decode cX0_changePlaces 15 = .ok (.getfield 18, 3) := by decide +kernel
theorem dX0_changePlaces_18 : decode cX0_changePlaces 18 = .ok (.iload_n 2, 1) := by decide +kernel
theorem dX0_changePlaces_19 : decode cX0_changePlaces 19 = .ok (.invokestatic 54, 3) := by decide +kernel
theorem dX0_changePlaces_22 : decode cX0_changePlaces 22 = .ok (.invokestatic 46, 3) := by decide +kernel
theorem dX0_changePlaces_25 : decode cX0_changePlaces 25 = .ok (.aload_n 0, 1) := by decide +kernel
theorem dX0_changePlaces_26 : decode cX0_changePlaces 26 = .ok (.getfield 18, 3) := by decide +kernel
theorem dX0_changePlaces_29 : decode cX0_changePlaces 29 = .ok (.iload_n 2, 1) := by decide +kernel
theorem dX0_changePlaces_30 : decode cX0_changePlaces 30 = .ok (.iload_n 3, 1) := by decide +kernel
theorem dX0_changePlaces_31 : decode cX0_changePlaces 31 = .ok (.invokestatic 46, 3) := by decide +kernel
theorem dX0_changePlaces_34 : decode cX0_changePlaces 34 = .ok (.aload_n 0, 1) := by decide +kernel
theorem dX0_changePlaces_35 : decode cX0_changePlaces 35 = .ok (.getfield 21, 3) := by decide +kernel
theorem dX0_changePlaces_38 : decode cX0_changePlaces 38 = .ok (.aload_n 0, 1) := by decide +kernel
theorem dX0_changePlaces_39 : decode cX0_changePlaces 39 = .ok (.getfield 18, 3) := by decide +kernel
theorem dX0_changePlaces_42 : decode cX0_changePlaces 42 = .ok (.iload_n 1, 1) := by decide +kernel
theorem dX0_changePlaces_43 : decode cX0_changePlaces 43 = .ok (.invokestatic 54, 3) := by decide +kernel
theorem dX0_changePlaces_46 : decode cX0_changePlaces 46 = .ok (.iload_n 1, 1) := by decide +kernel
theorem dX0_changePlaces_47 : decode cX0_changePlaces 47 = .ok (.invokestatic 46, 3) := by decide +kernel
theorem dX0_changePlaces_50 : decode cX0_changePlaces 50 = .ok (.aload_n 0, 1) := by decide +kernel
theorem dX0_changePlaces_51 : decode cX0_changePlaces 51 = .ok (.getfield 21, 3) := by decide +kernel
theorem dX0_changePlaces_54 : decode cX0_changePlaces 54 = .ok (.iload_n 3, 1) := by decide +kernel
theorem dX0_changePlaces_55 : decode cX0_changePlaces 55 = .ok (.iload_n 2, 1) := by decide +kernel
theorem dX0_changePlaces_56 : decode cX0_changePlaces 56 = .ok (.invokestatic 46, 3) := by decide +kernel
theorem dX0_changePlaces_59 : decode cX0_changePlaces 59 = .ok (.return_, 1) := by decide +kernel
set_option maxRecDepth 20000 in
theorem ggX0_live_X0_liveFor : GoodIn wsX0_live wsX0_liveFor := goodIn_r _ [7, 8, 9, 10, 6, 11, 12, 13, 14, 15, 16, 17, 18, 19, 20, 21, 22, 23, 24, 25, 26, 27, 28, 29, 30, 31, 32, 33, 34, 35, 36, 37, 38, 39, 40, 41, 42, 43, 44, 45, 46, 47, 48, 49, 50, 51, 52, 53, 54, 55, 56, 57, 58, 59, 60, 61, 62, 63, 64, 65, 66, 67, 68, 69, 70, 71, 72, 73, 74, 75, 76, 77, 78] (by decide +kernel) (by decide +kernel)
set_option maxRecDepth 20000 in
theorem gX0_live_X0_liveFor : GoodIn wsX0_live (wsV RX0 65 RX0 yX0_liveFor wsX0_liveFor) := goodIn_app (goodIn_of _ (by decide +kernel)) ggX0_live_X0_liveFor
theorem dX0_live_0 : decode cX0_live 0 = .ok (.iconst 0, 1) := by decide +kernel
theorem dX0_live_1 : decode cX0_live 1 = .ok (.istore_n 1, 1) := by decide +kernel
theorem dX0_live_2 : decode cX0_live 2 = .ok (.iload_n 1, 1) := by decide +kernel
theorem dX0_live_3 : decode cX0_live 3 = .ok (.aload_n 0, 1) := by decide +kernel
theorem dX0_live_4 : decode cX0_live 4 = .ok (.getfield 34, 3) := by decide +kernel
theorem dX0_live_7 : decode cX0_live 7 = .ok (.if_icmp .ge 15, 3) := by decide +kernel
theorem dX0_live_10 : decode cX0_live 10 = .ok (.aload_n 0, 1) := by decide +kernel
theorem dX0_live_11 : decode cX0_live 11 = .ok (.iload_n 1, 1) := by decide +kernel
theorem dX0_live_12 : decode cX0_live 12 = .ok (.iconst 1, 1) := by decide +kernel
theorem dX0_live_13 : decode cX0_live 13 = .ok (.invokevirtual 65, 3) := by decide +kernel
theorem dX0_live_16 : decode cX0_live 16 = .ok (.iinc 1 1, 3) := by decide +kernel
theorem dX0_live_19 : decode cX0_live 19 = .ok (.goto (-17), 3) := by decide +kernel
theorem dX0_live_22 : decode cX0_live 22 = .ok (.aload_n 0, 1) := by decide +kernel
theorem dX0_live_23 : decode cX0_live 23 = .ok (.dup, 1) := by decide +kernel
theorem dX0_live_24 : decode cX0_live 24 = .ok (.getfield 37, 3) := by decide +kernel
theorem dX0_live_27 : decode cX0_live 27 = .ok (.iconst 1, 1) := by decide +kernel
theorem dX0_live_28 : decode cX0_live 28 = .ok (.iadd, 1) := by decide +kernel
theorem dX0_live_29 : decode cX0_live 29 = .ok (.putfield 37, 3) := by decide +kernel
theorem dX0_live_32 : decode cX0_live 32 = .ok (.return_, 1) := by decide +kernel
set_option maxRecDepth 20000 in
theorem ggX0_slipLowest_X0_isKnown : GoodIn wsX0_slipLowest wsX0_isKnown := goodIn_r _ [6, 7, 8, 9, 10, 19, 20, 21, 22, 23, 24, 25, 26, 27] (by decide +kernel) (by decide +kernel)
set_option maxRecDepth 20000 in
theorem gX0_slipLowest_X0_isKnown : GoodIn wsX0_slipLowest (wsV RX0 62 RX0 yX0_isKnown wsX0_isKnown) := goodIn_app (goodIn_of _ (by decide +kernel)) ggX0_slipLowest_X0_isKnown
set_option maxRecDepth 20000 in
theorem ggX0_slipLowest_X0_goUp : GoodIn wsX0_slipLowest wsX0_goUp := goodIn_r _ [14, 15, 7, 16, 8, 9, 10, 17, 18, 19, 20, 21, 22, 23, 24, 25, 26, 27] (by decide +kernel) (by decide +kernel)
set_option maxRecDepth 20000 in
theorem gX0_slipLowest_X0_goUp : GoodIn wsX0_slipLowest (wsV RX0 69 RX0 yX0_goUp wsX0_goUp) := goodIn_app (goodIn_of _ (by decide +kernel)) ggX0_slipLowest_X0_goUp
theorem dX0_slipLowest_0 : decode cX0_slipLowest 0 = .ok (.iconst 0, 1) := by decide +kernel
theorem dX0_slipLowest_1 : decode cX0_slipLowest 1 = .ok (.istore_n 1, 1) := by decide +kernel
theorem dX0_slipLowest_2 : decode cX0_slipLowest 2 = .ok (.iload_n 1, 1) := by decide +kernel
theorem dX0_slipLowest_3 : decode cX0_slipLowest 3 = .ok (.aload_n 0, 1) := by decide +kernel
theorem dX0_slipLowest_4 : decode cX0_slipLowest 4 = .ok (.getfield 34, 3) := by decide +kernel
theorem dX0_slipLowest_7 : decode cX0_slipLowest 7 = .ok (.if_icmp .ge 23, 3) := by decide +kernel
theorem dX0_slipLowest_10 : decode cX0_slipLowest 10 = .ok (.aload_n 0, 1) := by decide +kernel
theorem dX0_slipLowest_11 : decode cX0_slipLowest 11 = .ok (.iload_n 1, 1) := by decide +kernel
theorem dX0_slipLowest_12 : decode cX0_slipLowest 12 = .ok (.invokevirtual 62, 3) := by decide +kernel
theorem dX0_slipLowest_15 : decode cX0_slipLowest 15 = .ok (.ifCond .ne 9, 3) := by decide +kernel
theorem dX0_slipLowest_18 : decode cX0_slipLowest 18 = .ok (.aload_n 0, 1) := by decide +kernel
theorem dX0_slipLowest_19 : decode cX0_slipLowest 19 = .ok (.iload_n 1, 1) := by decide +kernel
theorem dX0_slipLowest_20 : decode cX0_slipLowest 20 = .ok (.invokevirtual 69, 3) := by decide +kernel
theorem dX0_slipLowest_23 : decode cX0_slipLowest 23 = .ok (.return_, 1) := by decide +kernel
theorem dX0_slipLowest_24 : decode cX0_slipLowest 24 = .ok (.iinc 1 1, 3) := by decide +kernel
theorem dX0_slipLowest_27 : decode cX0_slipLowest 27 = .ok (.goto (-25), 3) := by decide +kernel
theorem dX0_slipLowest_30 : decode cX0_slipLowest 30 = .ok (.return_, 1) := by decide +kernel
set_option maxRecDepth 20000 in
theorem ggX0_liveFor_X0_isKnown : GoodIn wsX0_liveFor wsX0_isKnown := goodIn_r _ [5, 6, 7, 8, 9, 64, 65, 66, 67, 68, 69, 70, 71, 72] (by decide +kernel) (by decide +kernel)
set_option maxRecDepth 20000 in
theorem gX0_liveFor_X0_isKnown : GoodIn wsX0_liveFor (wsV RX0 62 RX0 yX0_isKnown wsX0_isKnown) := goodIn_app (goodIn_of _ (by decide +kernel)) ggX0_liveFor_X0_isKnown
set_option maxRecDepth 20000 in
theorem ggX0_liveFor_X0_doubters : GoodIn wsX0_liveFor wsX0_doubters := goodIn_r _ [13, 14, 15, 16, 17, 4, 18, 19, 7, 8, 9, 64, 65, 66, 67, 68, 69, 70, 71, 72] (by decide +kernel) (by decide +kernel)
set_option maxRecDepth 20000 in
theorem gX0_liveFor_X0_doubters : GoodIn wsX0_liveFor (wsV RX0 73 RX0 yX0_doubters wsX0_doubters) := goodIn_app (goodIn_of _ (by decide +kernel)) ggX0_liveFor_X0_doubters
set_option maxRecDepth 20000 in
theorem ggX0_liveFor_X0_move : GoodIn wsX0_liveFor wsX0_move := goodIn_r _ [23, 6, 24, 7, 8, 9, 25, 26, 27, 28, 29, 4, 30, 31, 32, 33, 34, 35, 36, 37, 14, 38, 39, 40, 41, 64, 65, 66, 67, 68, 69, 70, 71, 72] (by decide +kernel) (by decide +kernel)
set_option maxRecDepth 20000 in
theorem gX0_liveFor_X0_move : GoodIn wsX0_liveFor (wsV RX0 77 RX0 yX0_move wsX0_move) := goodIn_app (goodIn_of _ (by decide +kernel)) ggX0_liveFor_X0_move
set_option maxRecDepth 20000 in
theorem ggX0_liveFor_X0_spread : GoodIn wsX0_liveFor wsX0_spread := goodIn_r _ [45, 14, 1, 2, 3, 4, 5, 6, 7, 8, 9, 15, 16, 17, 18, 19, 46, 47, 48, 49, 50, 51, 25, 26, 52, 53, 54, 55, 40, 56, 57, 58, 59, 60, 61, 62, 63, 32, 33, 64, 65, 66, 67, 68, 69, 70, 71, 72] (by decide +kernel) (by decide +kernel)
set_option maxRecDepth 20000 in
theorem gX0_liveFor_X0_spread : GoodIn wsX0_liveFor (wsV RX0 80 RX0 yX0_spread wsX0_spread) := goodIn_app (goodIn_of _ (by decide +kernel)) ggX0_liveFor_X0_spread
theorem dX0_liveFor_0 : decode cX0_liveFor 0 = .ok (.iconst 0, 1) := by decide +kernel
theorem dX0_liveFor_1 : decode cX0_liveFor 1 = .ok (.istore_n 3, 1) := by decide +kernel
theorem dX0_liveFor_2 : decode cX0_liveFor 2 = .ok (.iload_n 3, 1) := by decide +kernel
theorem dX0_liveFor_3 : decode cX0_liveFor 3 = .ok (.iload_n 2, 1) := by decide +kernel
theorem dX0_liveFor_4 : decode cX0_liveFor 4 = .ok (.if_icmp .ge 38, 3) := by decide +kernel
theorem dX0_liveFor_7 : decode cX0_liveFor 7 = .ok (.aload_n 0, 1) := by decide +kernel
theorem dX0_liveFor_8 : decode cX0_liveFor 8 = .ok (.iload_n 1, 1) := by decide +kernel
theorem dX0_liveFor_9 : decode cX0_liveFor 9 = .ok (.invokevirtual 62, 3) := by decide +kernel
theorem dX0_liveFor_12 : decode cX0_liveFor 12 = .ok (.ifCond .ne 30, 3) := by decide +kernel
theorem dX0_liveFor_15 : decode cX0_liveFor 15 = .ok (.aload_n 0, 1) := by decide +kernel
theorem dX0_liveFor_16 : decode cX0_liveFor 16 = .ok (.iload_n 1, 1) := by decide +kernel
theorem dX0_liveFor_17 : decode cX0_liveFor 17 = .ok (.invokevirtual 73, 3) := by decide +kernel
theorem dX0_liveFor_20 : decode cX0_liveFor 20 = .ok (.istore 4, 2) := by decide +kernel
theorem dX0_liveFor_22 : decode cX0_liveFor 22 = .ok (.aload_n 0, 1) := by decide +kernel
theorem dX0_liveFor_23 : decode cX0_liveFor 23 = .ok (.iload_n 1, 1) := by decide +kernel
theorem dX0_liveFor_24 : decode cX0_liveFor 24 = .ok (.iload 4, 2) := by decide +kernel
theorem dX0_liveFor_26 : decode cX0_liveFor 26 = .ok (.invokevirtual 77, 3) := by decide +kernel
theorem dX0_liveFor_29 : decode cX0_liveFor 29 = .ok (.aload_n 0, 1) := by decide +kernel
theorem dX0_liveFor_30 : decode cX0_liveFor 30 = .ok (.iload_n 1, 1) := by decide +kernel
theorem dX0_liveFor_31 : decode cX0_liveFor 31 = .ok (.iload 4, 2) := by decide +kernel
theorem dX0_liveFor_33 : decode cX0_liveFor 33 = .ok (.invokevirtual 80, 3) := by decide +kernel
theorem dX0_liveFor_36 : decode cX0_liveFor 36 = .ok (.iinc 3 1, 3) := by decide +kernel
theorem dX0_liveFor_39 : decode cX0_liveFor 39 = .ok (.goto (-37), 3) := by decide +kernel
theorem dX0_liveFor_42 : decode cX0_liveFor 42 = .ok (.return_, 1) := by decide +kernel
set_option maxRecDepth 20000 in
theorem ggX0_untilKnown_X0_isKnown : GoodIn wsX0_untilKnown wsX0_isKnown := goodIn_r _ [5, 6, 7, 8, 9, 68, 69, 70, 71, 72, 73, 74, 75, 76] (by decide +kernel) (by decide +kernel)
set_option maxRecDepth 20000 in
theorem gX0_untilKnown_X0_isKnown : GoodIn wsX0_untilKnown (wsV RX0 62 RX0 yX0_isKnown wsX0_isKnown) := goodIn_app (goodIn_of _ (by decide +kernel)) ggX0_untilKnown_X0_isKnown
set_option maxRecDepth 20000 in
theorem ggX0_untilKnown_X0_liveFor : GoodIn wsX0_untilKnown wsX0_liveFor := goodIn_r _ [13, 1, 2, 3, 4, 5, 6, 7, 8, 9, 14, 15, 16, 17, 18, 19, 20, 21, 22, 23, 24, 25, 26, 27, 28, 29, 30, 31, 32, 33, 34, 35, 36, 37, 38, 39, 40, 41, 42, 43, 44, 45, 46, 47, 48, 49, 50, 51, 52, 53, 54, 55, 56, 57, 58, 59, 60, 61, 62, 63, 64, 65, 66, 67, 68, 69, 70, 71, 72, 73, 74, 75, 76] (by decide +kernel) (by decide +kernel)
set_option maxRecDepth 20000 in
theorem gX0_untilKnown_X0_liveFor : GoodIn wsX0_untilKnown (wsV RX0 65 RX0 yX0_liveFor wsX0_liveFor) := goodIn_app (goodIn_of _ (by decide +kernel)) ggX0_untilKnown_X0_liveFor
theorem dX0_untilKnown_0 : decode cX0_untilKnown 0 = .ok (.iconst 0, 1) := by decide +kernel
theorem dX0_untilKnown_1 : decode cX0_untilKnown 1 = .ok (.istore_n 3, 1) := by decide +kernel
theorem dX0_untilKnown_2 : decode cX0_untilKnown 2 = .ok (.iload_n 3, 1) := by decide +kernel
theorem dX0_untilKnown_3 : decode cX0_untilKnown 3 = .ok (.iload_n 2, 1) := by decide +kernel
theorem dX0_untilKnown_4 : decode cX0_untilKnown 4 = .ok (.if_icmp .gt 25, 3) := by decide +kernel
theorem dX0_untilKnown_7 : decode cX0_untilKnown 7 = .ok (.aload_n 0, 1) := by decide +kernel
theorem dX0_untilKnown_8 : decode cX0_untilKnown 8 = .ok (.iload_n 1, 1) := by decide +kernel
theorem dX0_untilKnown_9 : decode cX0_untilKnown 9 = .ok (.invokevirtual 62, 3) := by decide +kernel
theorem dX0_untilKnown_12 : decode cX0_untilKnown 12 = .ok (.ifCond .eq 5, 3) := by decide +kernel
theorem dX0_untilKnown_15 : decode cX0_untilKnown 15 = .ok (.iload_n 3, 1) := by decide +kernel
theorem dX0_untilKnown_16 : decode cX0_untilKnown 16 = .ok (.ireturn, 1) := by decide +kernel
theorem dX0_untilKnown_17 : decode cX0_untilKnown 17 = .ok (.aload_n 0, 1) := by decide +kernel
theorem dX0_untilKnown_18 : decode cX0_untilKnown 18 = .ok (.iload_n 1, 1) := by decide +kernel
theorem dX0_untilKnown_19 : decode cX0_untilKnown 19 = .ok (.iconst 1, 1) := by decide +kernel
theorem dX0_untilKnown_20 : decode cX0_untilKnown 20 = .ok (.invokevirtual 65, 3) := by decide +kernel
theorem dX0_untilKnown_23 : decode cX0_untilKnown 23 = .ok (.iinc 3 1, 3) := by decide +kernel
theorem dX0_untilKnown_26 : decode cX0_untilKnown 26 = .ok (.goto (-24), 3) := by decide +kernel
theorem dX0_untilKnown_29 : decode cX0_untilKnown 29 = .ok (.bipush (-4), 2) := by decide +kernel
theorem dX0_untilKnown_31 : decode cX0_untilKnown 31 = .ok (.ireturn, 1) := by decide +kernel
set_option maxRecDepth 20000 in
theorem ggX0_obey_X5_remainder : GoodIn wsX0_obey wsX5_remainder := goodIn_r _ [6] (by decide +kernel) (by decide +kernel)
set_option maxRecDepth 20000 in
theorem gX0_obey_X5_remainder_n83 : GoodIn wsX0_obey (wsX5_remainder) := ggX0_obey_X5_remainder
set_option maxRecDepth 20000 in
theorem ggX0_obey_X0_believes : GoodIn wsX0_obey wsX0_believes := goodIn_r _ [11, 12, 13, 5, 14, 40, 41, 42, 43, 44, 45, 46, 47, 48] (by decide +kernel) (by decide +kernel)
set_option maxRecDepth 20000 in
theorem gX0_obey_X0_believes : GoodIn wsX0_obey (wsV RX0 58 RX0 yX0_believes wsX0_believes) := goodIn_app (goodIn_of _ (by decide +kernel)) ggX0_obey_X0_believes
set_option maxRecDepth 20000 in
theorem ggX0_obey_X5_cutBelief : GoodIn wsX0_obey wsX5_cutBelief := goodIn_r _ [16, 17, 18, 19, 20, 21, 22, 23] (by decide +kernel) (by decide +kernel)
set_option maxRecDepth 20000 in
theorem gX0_obey_X5_cutBelief_n86 : GoodIn wsX0_obey (wsX5_cutBelief) := ggX0_obey_X5_cutBelief
set_option maxRecDepth 20000 in
theorem ggX0_obey_X0_setBelief : GoodIn wsX0_obey wsX0_setBelief := goodIn_r _ [27, 12, 28, 5, 29, 40, 41, 42, 43, 44, 45, 46, 47, 48] (by decide +kernel) (by decide +kernel)
set_option maxRecDepth 20000 in
theorem gX0_obey_X0_setBelief : GoodIn wsX0_obey (wsV RX0 89 RX0 yX0_setBelief wsX0_setBelief) := goodIn_app (goodIn_of _ (by decide +kernel)) ggX0_obey_X0_setBelief
set_option maxRecDepth 20000 in
theorem ggX0_obey_X0_isKnown : GoodIn wsX0_obey wsX0_isKnown := goodIn_r _ [33, 3, 13, 5, 14, 40, 41, 42, 43, 44, 45, 46, 47, 48] (by decide +kernel) (by decide +kernel)
set_option maxRecDepth 20000 in
theorem gX0_obey_X0_isKnown : GoodIn wsX0_obey (wsV RX0 62 RX0 yX0_isKnown wsX0_isKnown) := goodIn_app (goodIn_of _ (by decide +kernel)) ggX0_obey_X0_isKnown
set_option maxRecDepth 20000 in
theorem ggX0_obey_X5_put : GoodIn wsX0_obey wsX5_put := goodIn_r _ [29] (by decide +kernel) (by decide +kernel)
set_option maxRecDepth 20000 in
theorem gX0_obey_X5_put_n46 : GoodIn wsX0_obey (wsX5_put) := ggX0_obey_X5_put
set_option maxRecDepth 20000 in
theorem ggX0_obey_X0_changePlaces : GoodIn wsX0_obey wsX0_changePlaces := goodIn_r _ [37, 38, 39, 13, 5, 14, 28, 29, 40, 41, 42, 43, 44, 45, 46, 47, 48] (by decide +kernel) (by decide +kernel)
set_option maxRecDepth 20000 in
theorem gX0_obey_X0_changePlaces : GoodIn wsX0_obey (wsV RX0 93 RX0 yX0_changePlaces wsX0_changePlaces) := goodIn_app (goodIn_of _ (by decide +kernel)) ggX0_obey_X0_changePlaces
theorem dX0_obey_0 : decode cX0_obey 0 = .ok (.iload_n 1, 1) := by decide +kernel
theorem dX0_obey_1 : decode cX0_obey 1 = .ok (.bipush 8, 2) := by decide +kernel
theorem dX0_obey_3 : decode cX0_obey 3 = .ok (.idiv, 1) := by decide +kernel
theorem dX0_obey_4 : decode cX0_obey 4 = .ok (.aload_n 0, 1) := by decide +kernel
theorem dX0_obey_5 : decode cX0_obey 5 = .ok (.getfield 30, 3) := by decide +kernel
theorem dX0_obey_8 : decode cX0_obey 8 = .ok (.invokestatic 83, 3) := by decide +kernel
theorem dX0_obey_11 : decode cX0_obey 11 = .ok (.istore_n 2, 1) := by decide +kernel
theorem dX0_obey_12 : decode cX0_obey 12 = .ok (.iload_n 1, 1) := by decide +kernel
theorem dX0_obey_13 : decode cX0_obey 13 = .ok (.bipush 64, 2) := by decide +kernel
theorem dX0_obey_15 : decode cX0_obey 15 = .ok (.idiv, 1) := by decide +kernel
theorem dX0_obey_16 : decode cX0_obey 16 = .ok (.aload_n 0, 1) := by decide +kernel
theorem dX0_obey_17 : decode cX0_obey 17 = .ok (.getfield 34, 3) := by decide +kernel
theorem dX0_obey_20 : decode cX0_obey 20 = .ok (.invokestatic 83, 3) := by decide +kernel
theorem dX0_obey_23 : decode cX0_obey 23 = .ok (.istore_n 3, 1) := by decide +kernel
theorem dX0_obey_24 : decode cX0_obey 24 = .ok (.iload_n 1, 1) := by decide +kernel
theorem dX0_obey_25 : decode cX0_obey 25 = .ok (.bipush 8, 2) := by decide +kernel
theorem dX0_obey_27 : decode cX0_obey 27 = .ok (.irem, 1) := by decide +kernel
theorem dX0_obey_28 : decode cX0_obey 28 = .ok (.tableswitch 111 0 3 #[32, 52, 72, 92], 32) := by decide +kernel
theorem dX0_obey_60 : decode cX0_obey 60 = .ok (.aload_n 0, 1) := by decide +kernel
theorem dX0_obey_61 : decode cX0_obey 61 = .ok (.iload_n 2, 1) := by decide +kernel
theorem dX0_obey_62 : decode cX0_obey 62 = .ok (.iload_n 3, 1) := by decide +kernel
theorem dX0_obey_63 : decode cX0_obey 63 = .ok (.aload_n 0, 1) := by decide +kernel
theorem dX0_obey_64 : decode cX0_obey 64 = .ok (.iload_n 2, 1) := by decide +kernel
theorem dX0_obey_65 : decode cX0_obey 65 = .ok (.iload_n 3, 1) := by decide +kernel
theorem dX0_obey_66 : decode cX0_obey 66 = .ok (.invokevirtual 58, 3) := by decide +kernel
theorem dX0_obey_69 : decode cX0_obey 69 = .ok (.iconst 3, 1) := by decide +kernel
theorem dX0_obey_70 : decode cX0_obey 70 = .ok (.iadd, 1) := by decide +kernel
theorem dX0_obey_71 : decode cX0_obey 71 = .ok (.invokestatic 86, 3) := by decide +kernel
theorem dX0_obey_74 : decode cX0_obey 74 = .ok (.invokevirtual 89, 3) := by decide +kernel
theorem dX0_obey_77 : decode cX0_obey 77 = .ok (.goto 62, 3) := by decide +kernel
theorem dX0_obey_80 : decode cX0_obey 80 = .ok (.aload_n 0, 1) := by decide +kernel
theorem dX0_obey_81 : decode cX0_obey 81 = .ok (.iload_n 2, 1) := by decide +kernel
theorem dX0_obey_82 : decode cX0_obey 82 = .ok (.iload_n 3, 1) := by decide +kernel
theorem dX0_obey_83 : decode cX0_obey 83 = .ok (.aload_n 0, 1) := by decide +kernel
theorem dX0_obey_84 : decode cX0_obey 84 = .ok (.iload_n 2, 1) := by decide +kernel
theorem dX0_obey_85 : decode cX0_obey 85 = .ok (.iload_n 3, 1) := by decide +kernel
theorem dX0_obey_86 : decode cX0_obey 86 = .ok (.invokevirtual 58, 3) := by decide +kernel
theorem dX0_obey_89 : decode cX0_obey 89 = .ok (.iconst 3, 1) := by decide +kernel
theorem dX0_obey_90 : decode cX0_obey 90 = .ok (.isub, 1) := by decide +kernel
theorem dX0_obey_91 : decode cX0_obey 91 = .ok (.invokestatic 86, 3) := by decide +kernel
theorem dX0_obey_94 : decode cX0_obey 94 = .ok (.invokevirtual 89, 3) := by decide +kernel
theorem dX0_obey_97 : decode cX0_obey 97 = .ok (.goto 42, 3) := by decide +kernel
theorem dX0_obey_100 : decode cX0_obey 100 = .ok (.aload_n 0, 1) := by decide +kernel
theorem dX0_obey_101 : decode cX0_obey 101 = .ok (.iload_n 3, 1) := by decide +kernel
theorem dX0_obey_102 : decode cX0_obey 102 = .ok (.invokevirtual 62, 3) := by decide +kernel
theorem dX0_obey_105 : decode cX0_obey 105 = .ok (.ifCond .ne 34, 3) := by decide +kernel
theorem dX0_obey_108 : decode cX0_obey 108 = .ok (.aload_n 0, 1) := by decide +kernel
theorem dX0_obey_109 : decode cX0_obey 109 = .ok (.getfield 24, 3) := by decide +kernel
theorem dX0_obey_112 : decode cX0_obey 112 = .ok (.iload_n 3, 1) := by decide +kernel
theorem dX0_obey_113 : decode cX0_obey 113 = .ok (.iload_n 2, 1) := by decide +kernel
theorem dX0_obey_114 : decode cX0_obey 114 = .ok (.invokestatic 46, 3) := by decide +kernel
theorem dX0_obey_117 : decode cX0_obey 117 = .ok (.goto 22, 3) := by decide +kernel
theorem dX0_obey_120 : decode cX0_obey 120 = .ok (.aload_n 0, 1) := by decide +kernel
theorem dX0_obey_121 : decode cX0_obey 121 = .ok (.iload_n 2, 1) := by decide +kernel
theorem dX0_obey_122 : decode cX0_obey 122 = .ok (.iload_n 1, 1) := by decide +kernel
theorem dX0_obey_123 : decode cX0_obey 123 = .ok (.bipush 64, 2) := by decide +kernel
theorem dX0_obey_125 : decode cX0_obey 125 = .ok (.idiv, 1) := by decide +kernel
theorem dX0_obey_126 : decode cX0_obey 126 = .ok (.aload_n 0, 1) := by decide +kernel
theorem dX0_obey_127 : decode cX0_obey 127 = .ok (.getfield 30, 3) := by decide +kernel
theorem dX0_obey_130 : decode cX0_obey 130 = .ok (.invokestatic 83, 3) := by decide +kernel
theorem dX0_obey_133 : decode cX0_obey 133 = .ok (.invokevirtual 93, 3) := by decide +kernel
theorem dX0_obey_136 : decode cX0_obey 136 = .ok (.goto 3, 3) := by decide +kernel
theorem dX0_obey_139 : decode cX0_obey 139 = .ok (.return_, 1) := by decide +kernel
set_option maxRecDepth 20000 in
theorem ggX0_move_X5_of : GoodIn wsX0_move wsX5_of := goodIn_r _ [5] (by decide +kernel) (by decide +kernel)
set_option maxRecDepth 20000 in
theorem gX0_move_X5_of_n54 : GoodIn wsX0_move (wsX5_of) := ggX0_move_X5_of
set_option maxRecDepth 20000 in
theorem ggX0_move_X5_hasBit : GoodIn wsX0_move wsX5_hasBit := goodIn_r _ [7] (by decide +kernel) (by decide +kernel)
set_option maxRecDepth 20000 in
theorem gX0_move_X5_hasBit_n96 : GoodIn wsX0_move (wsX5_hasBit) := ggX0_move_X5_hasBit
set_option maxRecDepth 20000 in
theorem ggX0_move_X0_goUp : GoodIn wsX0_move wsX0_goUp := goodIn_r _ [12, 2, 1, 13, 3, 4, 5, 14, 15, 25, 26, 27, 28, 29, 30, 31, 32, 33] (by decide +kernel) (by decide +kernel)
set_option maxRecDepth 20000 in
theorem gX0_move_X0_goUp : GoodIn wsX0_move (wsV RX0 69 RX0 yX0_goUp wsX0_goUp) := goodIn_app (goodIn_of _ (by decide +kernel)) ggX0_move_X0_goUp
set_option maxRecDepth 20000 in
theorem ggX0_move_X0_nearest : GoodIn wsX0_move wsX0_nearest := goodIn_r _ [19, 20, 13, 21, 22, 23, 24, 3, 4, 5, 6, 7, 25, 26, 27, 28, 29, 30, 31, 32, 33] (by decide +kernel) (by decide +kernel)
set_option maxRecDepth 20000 in
theorem gX0_move_X0_nearest : GoodIn wsX0_move (wsV RX0 100 RX0 yX0_nearest wsX0_nearest) := goodIn_app (goodIn_of _ (by decide +kernel)) ggX0_move_X0_nearest
set_option maxRecDepth 20000 in
theorem ggX0_move_X5_put : GoodIn wsX0_move wsX5_put := goodIn_r _ [15] (by decide +kernel) (by decide +kernel)
set_option maxRecDepth 20000 in
theorem gX0_move_X5_put_n46 : GoodIn wsX0_move (wsX5_put) := ggX0_move_X5_put
theorem dX0_move_0 : decode cX0_move 0 = .ok (.iload_n 2, 1) := by decide +kernel
theorem dX0_move_1 : decode cX0_move 1 = .ok (.aload_n 0, 1) := by decide +kernel
theorem dX0_move_2 : decode cX0_move 2 = .ok (.getfield 24, 3) := by decide +kernel
theorem dX0_move_5 : decode cX0_move 5 = .ok (.iload_n 1, 1) := by decide +kernel
theorem dX0_move_6 : decode cX0_move 6 = .ok (.invokestatic 54, 3) := by decide +kernel
theorem dX0_move_9 : decode cX0_move 9 = .ok (.invokestatic 96, 3) := by decide +kernel
theorem dX0_move_12 : decode cX0_move 12 = .ok (.ifCond .eq 11, 3) := by decide +kernel
theorem dX0_move_15 : decode cX0_move 15 = .ok (.aload_n 0, 1) := by decide +kernel
theorem dX0_move_16 : decode cX0_move 16 = .ok (.iload_n 1, 1) := by decide +kernel
theorem dX0_move_17 : decode cX0_move 17 = .ok (.invokevirtual 69, 3) := by decide +kernel
theorem dX0_move_20 : decode cX0_move 20 = .ok (.goto 35, 3) := by decide +kernel
theorem dX0_move_23 : decode cX0_move 23 = .ok (.iload_n 2, 1) := by decide +kernel
theorem dX0_move_24 : decode cX0_move 24 = .ok (.ifCond .eq 31, 3) := by decide +kernel
theorem dX0_move_27 : decode cX0_move 27 = .ok (.aload_n 0, 1) := by decide +kernel
theorem dX0_move_28 : decode cX0_move 28 = .ok (.getfield 24, 3) := by decide +kernel
theorem dX0_move_31 : decode cX0_move 31 = .ok (.iload_n 1, 1) := by decide +kernel
theorem dX0_move_32 : decode cX0_move 32 = .ok (.aload_n 0, 1) := by decide +kernel
theorem dX0_move_33 : decode cX0_move 33 = .ok (.iload_n 2, 1) := by decide +kernel
theorem dX0_move_34 : decode cX0_move 34 = .ok (.aload_n 0, 1) := by decide +kernel
theorem dX0_move_35 : decode cX0_move 35 = .ok (.getfield 18, 3) := by decide +kernel
theorem dX0_move_38 : decode cX0_move 38 = .ok (.aload_n 0, 1) := by decide +kernel
theorem dX0_move_39 : decode cX0_move 39 = .ok (.getfield 24, 3) := by decide +kernel
theorem dX0_move_42 : decode cX0_move 42 = .ok (.iload_n 1, 1) := by decide +kernel
theorem dX0_move_43 : decode cX0_move 43 = .ok (.invokestatic 54, 3) := by decide +kernel
theorem dX0_move_46 : decode cX0_move 46 = .ok (.invokestatic 54, 3) := by decide +kernel
theorem dX0_move_49 : decode cX0_move 49 = .ok (.invokevirtual 100, 3) := by decide +kernel
theorem dX0_move_52 : decode cX0_move 52 = .ok (.invokestatic 46, 3) := by decide +kernel
theorem dX0_move_55 : decode cX0_move 55 = .ok (.return_, 1) := by decide +kernel
set_option maxRecDepth 20000 in
theorem ggX0_goUp_X5_of : GoodIn wsX0_goUp wsX5_of := goodIn_r _ [6] (by decide +kernel) (by decide +kernel)
set_option maxRecDepth 20000 in
theorem gX0_goUp_X5_of_n54 : GoodIn wsX0_goUp (wsX5_of) := ggX0_goUp_X5_of
set_option maxRecDepth 20000 in
theorem ggX0_goUp_X5_put : GoodIn wsX0_goUp wsX5_put := goodIn_r _ [8] (by decide +kernel) (by decide +kernel)
set_option maxRecDepth 20000 in
theorem gX0_goUp_X5_put_n46 : GoodIn wsX0_goUp (wsX5_put) := ggX0_goUp_X5_put
theorem dX0_goUp_0 : decode cX0_goUp 0 = .ok (.aload_n 0, 1) := by decide +kernel
theorem dX0_goUp_1 : decode cX0_goUp 1 = .ok (.getfield 18, 3) := by decide +kernel
theorem dX0_goUp_4 : decode cX0_goUp 4 = .ok (.aload_n 0, 1) := by decide +kernel
theorem dX0_goUp_5 : decode cX0_goUp 5 = .ok (.getfield 24, 3) := by decide +kernel
theorem dX0_goUp_8 : decode cX0_goUp 8 = .ok (.iload_n 1, 1) := by decide +kernel
theorem dX0_goUp_9 : decode cX0_goUp 9 = .ok (.invokestatic 54, 3) := by decide +kernel
theorem dX0_goUp_12 : decode cX0_goUp 12 = .ok (.invokestatic 54, 3) := by decide +kernel
theorem dX0_goUp_15 : decode cX0_goUp 15 = .ok (.istore_n 2, 1) := by decide +kernel
theorem dX0_goUp_16 : decode cX0_goUp 16 = .ok (.aload_n 0, 1) := by decide +kernel
theorem dX0_goUp_17 : decode cX0_goUp 17 = .ok (.getfield 24, 3) := by decide +kernel
theorem dX0_goUp_20 : decode cX0_goUp 20 = .ok (.iload_n 1, 1) := by decide +kernel
theorem dX0_goUp_21 : decode cX0_goUp 21 = .ok (.iload_n 2, 1) := by decide +kernel
theorem dX0_goUp_22 : decode cX0_goUp 22 = .ok (.ifCond .ne 8, 3) := by decide +kernel
theorem dX0_goUp_25 : decode cX0_goUp 25 = .ok (.bipush 9, 2) := by decide +kernel
theorem dX0_goUp_27 : decode cX0_goUp 27 = .ok (.goto 13, 3) := by decide +kernel
theorem dX0_goUp_30 : decode cX0_goUp 30 = .ok (.aload_n 0, 1) := by decide +kernel
theorem dX0_goUp_31 : decode cX0_goUp 31 = .ok (.getfield 21, 3) := by decide +kernel
theorem dX0_goUp_34 : decode cX0_goUp 34 = .ok (.iload_n 2, 1) := by decide +kernel
theorem dX0_goUp_35 : decode cX0_goUp 35 = .ok (.iconst 1, 1) := by decide +kernel
theorem dX0_goUp_36 : decode cX0_goUp 36 = .ok (.isub, 1) := by decide +kernel
theorem dX0_goUp_37 : decode cX0_goUp 37 = .ok (.invokestatic 54, 3) := by decide +kernel
theorem dX0_goUp_40 : decode cX0_goUp 40 = .ok (.invokestatic 46, 3) := by decide +kernel
theorem dX0_goUp_43 : decode cX0_goUp 43 = .ok (.return_, 1) := by decide +kernel
set_option maxRecDepth 20000 in
theorem ggX0_nearest_X5_of : GoodIn wsX0_nearest wsX5_of := goodIn_r _ [9] (by decide +kernel) (by decide +kernel)
set_option maxRecDepth 20000 in
theorem gX0_nearest_X5_of_n54 : GoodIn wsX0_nearest (wsX5_of) := ggX0_nearest_X5_of
set_option maxRecDepth 20000 in
theorem ggX0_nearest_X5_hasBit : GoodIn wsX0_nearest wsX5_hasBit := goodIn_r _ [11] (by decide +kernel) (by decide +kernel)
set_option maxRecDepth 20000 in
theorem gX0_nearest_X5_hasBit_n96 : GoodIn wsX0_nearest (wsX5_hasBit) := ggX0_nearest_X5_hasBit
theorem dX0_nearest_0 : decode cX0_nearest 0 = .ok (.iconst 0, 1) := by decide +kernel
theorem dX0_nearest_1 : decode cX0_nearest 1 = .ok (.istore_n 3, 1) := by decide +kernel
theorem dX0_nearest_2 : decode cX0_nearest 2 = .ok (.bipush 14, 2) := by decide +kernel
theorem dX0_nearest_4 : decode cX0_nearest 4 = .ok (.istore 4, 2) := by decide +kernel
theorem dX0_nearest_6 : decode cX0_nearest 6 = .ok (.iconst 0, 1) := by decide +kernel
theorem dX0_nearest_7 : decode cX0_nearest 7 = .ok (.istore 5, 2) := by decide +kernel
theorem dX0_nearest_9 : decode cX0_nearest 9 = .ok (.iload 5, 2) := by decide +kernel
theorem dX0_nearest_11 : decode cX0_nearest 11 = .ok (.aload_n 0, 1) := by decide +kernel
theorem dX0_nearest_12 : decode cX0_nearest 12 = .ok (.getfield 30, 3) := by decide +kernel
theorem dX0_nearest_15 : decode cX0_nearest 15 = .ok (.if_icmp .ge 52, 3) := by decide +kernel
theorem dX0_nearest_18 : decode cX0_nearest 18 = .ok (.aload_n 0, 1) := by decide +kernel
theorem dX0_nearest_19 : decode cX0_nearest 19 = .ok (.getfield 21, 3) := by decide +kernel
theorem dX0_nearest_22 : decode cX0_nearest 22 = .ok (.iload 5, 2) := by decide +kernel
theorem dX0_nearest_24 : decode cX0_nearest 24 = .ok (.invokestatic 54, 3) := by decide +kernel
theorem dX0_nearest_27 : decode cX0_nearest 27 = .ok (.istore 6, 2) := by decide +kernel
theorem dX0_nearest_29 : decode cX0_nearest 29 = .ok (.iload 5, 2) := by decide +kernel
theorem dX0_nearest_31 : decode cX0_nearest 31 = .ok (.iload_n 2, 1) := by decide +kernel
theorem dX0_nearest_32 : decode cX0_nearest 32 = .ok (.isub, 1) := by decide +kernel
theorem dX0_nearest_33 : decode cX0_nearest 33 = .ok (.invokestatic 103, 3) := by decide +kernel
theorem dX0_nearest_36 : decode cX0_nearest 36 = .ok (.istore 7, 2) := by decide +kernel
theorem dX0_nearest_38 : decode cX0_nearest 38 = .ok (.iload_n 1, 1) := by decide +kernel
theorem dX0_nearest_39 : decode cX0_nearest 39 = .ok (.iload 6, 2) := by decide +kernel
theorem dX0_nearest_41 : decode cX0_nearest 41 = .ok (.invokestatic 96, 3) := by decide +kernel
theorem dX0_nearest_44 : decode cX0_nearest 44 = .ok (.ifCond .eq 17, 3) := by decide +kernel
theorem dX0_nearest_47 : decode cX0_nearest 47 = .ok (.iload 7, 2) := by decide +kernel
theorem dX0_nearest_49 : decode cX0_nearest 49 = .ok (.iload 4, 2) := by decide +kernel
theorem dX0_nearest_51 : decode cX0_nearest 51 = .ok (.if_icmp .ge 10, 3) := by decide +kernel
theorem dX0_nearest_54 : decode cX0_nearest 54 = .ok (.iload 6, 2) := by decide +kernel
theorem dX0_nearest_56 : decode cX0_nearest 56 = .ok (.istore_n 3, 1) := by decide +kernel
theorem dX0_nearest_57 : decode cX0_nearest 57 = .ok (.iload 7, 2) := by decide +kernel
theorem dX0_nearest_59 : decode cX0_nearest 59 = .ok (.istore 4, 2) := by decide +kernel
theorem dX0_nearest_61 : decode cX0_nearest 61 = .ok (.iinc 5 1, 3) := by decide +kernel
theorem dX0_nearest_64 : decode cX0_nearest 64 = .ok (.goto (-55), 3) := by decide +kernel
theorem dX0_nearest_67 : decode cX0_nearest 67 = .ok (.iload_n 3, 1) := by decide +kernel
theorem dX0_nearest_68 : decode cX0_nearest 68 = .ok (.ireturn, 1) := by decide +kernel
set_option maxRecDepth 20000 in
theorem ggX0_spread_X0_isKnown : GoodIn wsX0_spread wsX0_isKnown := goodIn_r _ [6, 7, 8, 9, 10, 39, 40, 41, 42, 43, 44, 45, 46, 47] (by decide +kernel) (by decide +kernel)
set_option maxRecDepth 20000 in
theorem gX0_spread_X0_isKnown : GoodIn wsX0_spread (wsV RX0 62 RX0 yX0_isKnown wsX0_isKnown) := goodIn_app (goodIn_of _ (by decide +kernel)) ggX0_spread_X0_isKnown
set_option maxRecDepth 20000 in
theorem ggX0_spread_X0_believes : GoodIn wsX0_spread wsX0_believes := goodIn_r _ [14, 15, 8, 9, 10, 39, 40, 41, 42, 43, 44, 45, 46, 47] (by decide +kernel) (by decide +kernel)
set_option maxRecDepth 20000 in
theorem gX0_spread_X0_believes : GoodIn wsX0_spread (wsV RX0 58 RX0 yX0_believes wsX0_believes) := goodIn_app (goodIn_of _ (by decide +kernel)) ggX0_spread_X0_believes
set_option maxRecDepth 20000 in
theorem ggX0_spread_X0_change : GoodIn wsX0_spread wsX0_change := goodIn_r _ [19, 20, 21, 7, 8, 9, 10, 22, 23, 39, 40, 41, 42, 43, 44, 45, 46, 47] (by decide +kernel) (by decide +kernel)
set_option maxRecDepth 20000 in
theorem gX0_spread_X0_change : GoodIn wsX0_spread (wsV RX0 108 RX0 yX0_change wsX0_change) := goodIn_app (goodIn_of _ (by decide +kernel)) ggX0_spread_X0_change
set_option maxRecDepth 20000 in
theorem ggX0_spread_X5_cutBelief : GoodIn wsX0_spread wsX5_cutBelief := goodIn_r _ [25, 26, 27, 28, 29, 30, 31, 32] (by decide +kernel) (by decide +kernel)
set_option maxRecDepth 20000 in
theorem gX0_spread_X5_cutBelief_n86 : GoodIn wsX0_spread (wsX5_cutBelief) := ggX0_spread_X5_cutBelief
set_option maxRecDepth 20000 in
theorem ggX0_spread_X0_setBelief : GoodIn wsX0_spread wsX0_setBelief := goodIn_r _ [36, 15, 37, 9, 38, 39, 40, 41, 42, 43, 44, 45, 46, 47] (by decide +kernel) (by decide +kernel)
set_option maxRecDepth 20000 in
theorem gX0_spread_X0_setBelief : GoodIn wsX0_spread (wsV RX0 89 RX0 yX0_setBelief wsX0_setBelief) := goodIn_app (goodIn_of _ (by decide +kernel)) ggX0_spread_X0_setBelief
theorem dX0_spread_0 : decode cX0_spread 0 = .ok (.aload_n 0, 1) := by decide +kernel
theorem dX0_spread_1 : decode cX0_spread 1 = .ok (.iload_n 1, 1) := by decide +kernel
theorem dX0_spread_2 : decode cX0_spread 2 = .ok (.invokevirtual 62, 3) := by decide +kernel
theorem dX0_spread_5 : decode cX0_spread 5 = .ok (.ifCond .eq 4, 3) := by decide +kernel
theorem dX0_spread_8 : decode cX0_spread 8 = .ok (.return_, 1) := by decide +kernel
theorem dX0_spread_9 : decode cX0_spread 9 = .ok (.iconst 0, 1) := by decide +kernel
theorem dX0_spread_10 : decode cX0_spread 10 = .ok (.istore_n 3, 1) := by decide +kernel
theorem dX0_spread_11 : decode cX0_spread 11 = .ok (.iload_n 3, 1) := by decide +kernel
theorem dX0_spread_12 : decode cX0_spread 12 = .ok (.aload_n 0, 1) := by decide +kernel
theorem dX0_spread_13 : decode cX0_spread 13 = .ok (.getfield 30, 3) := by decide +kernel
theorem dX0_spread_16 : decode cX0_spread 16 = .ok (.if_icmp .ge 32, 3) := by decide +kernel
theorem dX0_spread_19 : decode cX0_spread 19 = .ok (.aload_n 0, 1) := by decide +kernel
theorem dX0_spread_20 : decode cX0_spread 20 = .ok (.iload_n 3, 1) := by decide +kernel
theorem dX0_spread_21 : decode cX0_spread 21 = .ok (.iload_n 1, 1) := by decide +kernel
theorem dX0_spread_22 : decode cX0_spread 22 = .ok (.aload_n 0, 1) := by decide +kernel
theorem dX0_spread_23 : decode cX0_spread 23 = .ok (.iload_n 3, 1) := by decide +kernel
theorem dX0_spread_24 : decode cX0_spread 24 = .ok (.iload_n 1, 1) := by decide +kernel
theorem dX0_spread_25 : decode cX0_spread 25 = .ok (.invokevirtual 58, 3) := by decide +kernel
theorem dX0_spread_28 : decode cX0_spread 28 = .ok (.aload_n 0, 1) := by decide +kernel
theorem dX0_spread_29 : decode cX0_spread 29 = .ok (.iload_n 3, 1) := by decide +kernel
theorem dX0_spread_30 : decode cX0_spread 30 = .ok (.iload_n 1, 1) := by decide +kernel
theorem dX0_spread_31 : decode cX0_spread 31 = .ok (.iload_n 2, 1) := by decide +kernel
theorem dX0_spread_32 : decode cX0_spread 32 = .ok (.invokevirtual 108, 3) := by decide +kernel
theorem dX0_spread_35 : decode cX0_spread 35 = .ok (.iadd, 1) := by decide +kernel
theorem dX0_spread_36 : decode cX0_spread 36 = .ok (.invokestatic 86, 3) := by decide +kernel
theorem dX0_spread_39 : decode cX0_spread 39 = .ok (.invokevirtual 89, 3) := by decide +kernel
theorem dX0_spread_42 : decode cX0_spread 42 = .ok (.iinc 3 1, 3) := by decide +kernel
theorem dX0_spread_45 : decode cX0_spread 45 = .ok (.goto (-34), 3) := by decide +kernel
theorem dX0_spread_48 : decode cX0_spread 48 = .ok (.return_, 1) := by decide +kernel
set_option maxRecDepth 20000 in
theorem ggX0_change_X5_of : GoodIn wsX0_change wsX5_of := goodIn_r _ [6] (by decide +kernel) (by decide +kernel)
set_option maxRecDepth 20000 in
theorem gX0_change_X5_of_n54 : GoodIn wsX0_change (wsX5_of) := ggX0_change_X5_of
set_option maxRecDepth 20000 in
theorem ggX0_change_X5_hasBit : GoodIn wsX0_change wsX5_hasBit := goodIn_r _ [8] (by decide +kernel) (by decide +kernel)
set_option maxRecDepth 20000 in
theorem gX0_change_X5_hasBit_n96 : GoodIn wsX0_change (wsX5_hasBit) := ggX0_change_X5_hasBit
theorem dX0_change_0 : decode cX0_change 0 = .ok (.aload_n 0, 1) := by decide +kernel
theorem dX0_change_1 : decode cX0_change 1 = .ok (.getfield 15, 3) := by decide +kernel
theorem dX0_change_4 : decode cX0_change 4 = .ok (.iload_n 1, 1) := by decide +kernel
theorem dX0_change_5 : decode cX0_change 5 = .ok (.invokestatic 54, 3) := by decide +kernel
theorem dX0_change_8 : decode cX0_change 8 = .ok (.istore 4, 2) := by decide +kernel
theorem dX0_change_10 : decode cX0_change 10 = .ok (.iload 4, 2) := by decide +kernel
theorem dX0_change_12 : decode cX0_change 12 = .ok (.bipush (-4), 2) := by decide +kernel
theorem dX0_change_14 : decode cX0_change 14 = .ok (.if_icmp .eq 16, 3) := by decide +kernel
theorem dX0_change_17 : decode cX0_change 17 = .ok (.iload_n 3, 1) := by decide +kernel
theorem dX0_change_18 : decode cX0_change 18 = .ok (.iload 4, 2) := by decide +kernel
theorem dX0_change_20 : decode cX0_change 20 = .ok (.invokestatic 96, 3) := by decide +kernel
theorem dX0_change_23 : decode cX0_change 23 = .ok (.ifCond .ne 7, 3) := by decide +kernel
theorem dX0_change_26 : decode cX0_change 26 = .ok (.iconst 1, 1) := by decide +kernel
theorem dX0_change_27 : decode cX0_change 27 = .ok (.goto 4, 3) := by decide +kernel
theorem dX0_change_30 : decode cX0_change 30 = .ok (.iconst 0, 1) := by decide +kernel
theorem dX0_change_31 : decode cX0_change 31 = .ok (.istore 5, 2) := by decide +kernel
theorem dX0_change_33 : decode cX0_change 33 = .ok (.aload_n 0, 1) := by decide +kernel
theorem dX0_change_34 : decode cX0_change 34 = .ok (.getfield 9, 3) := by decide +kernel
theorem dX0_change_37 : decode cX0_change 37 = .ok (.iload_n 1, 1) := by decide +kernel
theorem dX0_change_38 : decode cX0_change 38 = .ok (.invokestatic 54, 3) := by decide +kernel
theorem dX0_change_41 : decode cX0_change 41 = .ok (.tableswitch 71 0 3 #[31, 42, 71, 53], 31) := by decide +kernel
theorem dX0_change_72 : decode cX0_change 72 = .ok (.iload 5, 2) := by decide +kernel
theorem dX0_change_74 : decode cX0_change 74 = .ok (.ifCond .eq 7, 3) := by decide +kernel
theorem dX0_change_77 : decode cX0_change 77 = .ok (.iconst 1, 1) := by decide +kernel
theorem dX0_change_78 : decode cX0_change 78 = .ok (.goto 4, 3) := by decide +kernel
theorem dX0_change_81 : decode cX0_change 81 = .ok (.iconst 0, 1) := by decide +kernel
theorem dX0_change_82 : decode cX0_change 82 = .ok (.ireturn, 1) := by decide +kernel
theorem dX0_change_83 : decode cX0_change 83 = .ok (.iload 5, 2) := by decide +kernel
theorem dX0_change_85 : decode cX0_change 85 = .ok (.ifCond .eq 7, 3) := by decide +kernel
theorem dX0_change_88 : decode cX0_change 88 = .ok (.iconst 2, 1) := by decide +kernel
theorem dX0_change_89 : decode cX0_change 89 = .ok (.goto 4, 3) := by decide +kernel
theorem dX0_change_92 : decode cX0_change 92 = .ok (.iconst 0, 1) := by decide +kernel
theorem dX0_change_93 : decode cX0_change 93 = .ok (.ireturn, 1) := by decide +kernel
theorem dX0_change_94 : decode cX0_change 94 = .ok (.aload_n 0, 1) := by decide +kernel
theorem dX0_change_95 : decode cX0_change 95 = .ok (.getfield 24, 3) := by decide +kernel
theorem dX0_change_98 : decode cX0_change 98 = .ok (.iload_n 2, 1) := by decide +kernel
theorem dX0_change_99 : decode cX0_change 99 = .ok (.invokestatic 54, 3) := by decide +kernel
theorem dX0_change_102 : decode cX0_change 102 = .ok (.iload_n 1, 1) := by decide +kernel
theorem dX0_change_103 : decode cX0_change 103 = .ok (.if_icmp .ne 7, 3) := by decide +kernel
theorem dX0_change_106 : decode cX0_change 106 = .ok (.iconst 0, 1) := by decide +kernel
theorem dX0_change_107 : decode cX0_change 107 = .ok (.goto 4, 3) := by decide +kernel
theorem dX0_change_110 : decode cX0_change 110 = .ok (.iconst (-1), 1) := by decide +kernel
theorem dX0_change_111 : decode cX0_change 111 = .ok (.ireturn, 1) := by decide +kernel
theorem dX0_change_112 : decode cX0_change 112 = .ok (.iconst 0, 1) := by decide +kernel
theorem dX0_change_113 : decode cX0_change 113 = .ok (.ireturn, 1) := by decide +kernel
theorem dX1_init_0 : decode cX1_init 0 = .ok (.aload_n 0, 1) := by decide +kernel
theorem dX1_init_1 : decode cX1_init 1 = .ok (.invokespecial 3, 3) := by decide +kernel
theorem dX1_init_4 : decode cX1_init 4 = .ok (.aload_n 0, 1) := by decide +kernel
theorem dX1_init_5 : decode cX1_init 5 = .ok (.sipush 896, 3) := by decide +kernel
theorem dX1_init_8 : decode cX1_init 8 = .ok (.newarray .int, 2) := by decide +kernel
theorem dX1_init_10 : decode cX1_init 10 = .ok (.putfield 9, 3) := by decide +kernel
theorem dX1_init_13 : decode cX1_init 13 = .ok (.return_, 1) := by decide +kernel
set_option maxRecDepth 20000 in
theorem ggX1_weigh_X5_put : GoodIn wsX1_weigh wsX5_put := goodIn_r _ [4] (by decide +kernel) (by decide +kernel)
set_option maxRecDepth 20000 in
theorem gX1_weigh_X5_put_n21 : GoodIn wsX1_weigh (wsX5_put) := ggX1_weigh_X5_put
set_option maxRecDepth 20000 in
theorem ggX1_weigh_X1_takers : GoodIn wsX1_weigh wsX1_takers := goodIn_r _ [9, 10, 11, 12, 13, 14, 15, 16, 3, 17, 18, 19, 20, 21, 22, 23, 24, 25, 26, 27, 43, 44, 45, 46, 47, 48, 49, 50, 51] (by decide +kernel) (by decide +kernel)
set_option maxRecDepth 20000 in
theorem gX1_weigh_X1_takers : GoodIn wsX1_weigh (wsV RX1 25 RX1 yX1_takers wsX1_takers) := goodIn_app (goodIn_of _ (by decide +kernel)) ggX1_weigh_X1_takers
set_option maxRecDepth 20000 in
theorem ggX1_weigh_X1_best : GoodIn wsX1_weigh wsX1_best := goodIn_r _ [31, 32, 33, 34, 35, 36, 37, 38, 8, 39, 1, 16, 3, 17, 40, 41, 42] (by decide +kernel) (by decide +kernel)
set_option maxRecDepth 20000 in
theorem gX1_weigh_X1_best : GoodIn wsX1_weigh (wsV RX1 29 RX1 yX1_best wsX1_best) := goodIn_app (goodIn_of _ (by decide +kernel)) ggX1_weigh_X1_best
theorem dX1_weigh_0 : decode cX1_weigh 0 = .ok (.iconst 0, 1) := by decide +kernel
theorem dX1_weigh_1 : decode cX1_weigh 1 = .ok (.istore_n 2, 1) := by decide +kernel
theorem dX1_weigh_2 : decode cX1_weigh 2 = .ok (.iload_n 2, 1) := by decide +kernel
theorem dX1_weigh_3 : decode cX1_weigh 3 = .ok (.sipush 128, 3) := by decide +kernel
theorem dX1_weigh_6 : decode cX1_weigh 6 = .ok (.if_icmp .ge 27, 3) := by decide +kernel
theorem dX1_weigh_9 : decode cX1_weigh 9 = .ok (.aload_n 0, 1) := by decide +kernel
theorem dX1_weigh_10 : decode cX1_weigh 10 = .ok (.getfield 9, 3) := by decide +kernel
theorem dX1_weigh_13 : decode cX1_weigh 13 = .ok (.aload_n 1, 1) := by decide +kernel
theorem dX1_weigh_14 : decode cX1_weigh 14 = .ok (.getfield 15, 3) := by decide +kernel
theorem dX1_weigh_17 : decode cX1_weigh 17 = .ok (.sipush 128, 3) := by decide +kernel
theorem dX1_weigh_20 : decode cX1_weigh 20 = .ok (.imul, 1) := by decide +kernel
theorem dX1_weigh_21 : decode cX1_weigh 21 = .ok (.iload_n 2, 1) := by decide +kernel
theorem dX1_weigh_22 : decode cX1_weigh 22 = .ok (.iadd, 1) := by decide +kernel
theorem dX1_weigh_23 : decode cX1_weigh 23 = .ok (.iconst 0, 1) := by decide +kernel
theorem dX1_weigh_24 : decode cX1_weigh 24 = .ok (.invokestatic 21, 3) := by decide +kernel
theorem dX1_weigh_27 : decode cX1_weigh 27 = .ok (.iinc 2 1, 3) := by decide +kernel
theorem dX1_weigh_30 : decode cX1_weigh 30 = .ok (.goto (-28), 3) := by decide +kernel
theorem dX1_weigh_33 : decode cX1_weigh 33 = .ok (.aload_n 1, 1) := by decide +kernel
theorem dX1_weigh_34 : decode cX1_weigh 34 = .ok (.getfield 15, 3) := by decide +kernel
theorem dX1_weigh_37 : decode cX1_weigh 37 = .ok (.iconst 1, 1) := by decide +kernel
theorem dX1_weigh_38 : decode cX1_weigh 38 = .ok (.isub, 1) := by decide +kernel
theorem dX1_weigh_39 : decode cX1_weigh 39 = .ok (.istore_n 2, 1) := by decide +kernel
theorem dX1_weigh_40 : decode cX1_weigh 40 = .ok (.iload_n 2, 1) := by decide +kernel
theorem dX1_weigh_41 : decode cX1_weigh 41 = .ok (.ifCond .lt 56, 3) := by decide +kernel
theorem dX1_weigh_44 : decode cX1_weigh 44 = .ok (.aload_n 0, 1) := by decide +kernel
theorem dX1_weigh_45 : decode cX1_weigh 45 = .ok (.aload_n 1, 1) := by decide +kernel
theorem dX1_weigh_46 : decode cX1_weigh 46 = .ok (.iload_n 2, 1) := by decide +kernel
theorem dX1_weigh_47 : decode cX1_weigh 47 = .ok (.invokevirtual 25, 3) := by decide +kernel
theorem dX1_weigh_50 : decode cX1_weigh 50 = .ok (.istore_n 3, 1) := by decide +kernel
theorem dX1_weigh_51 : decode cX1_weigh 51 = .ok (.iconst 0, 1) := by decide +kernel
theorem dX1_weigh_52 : decode cX1_weigh 52 = .ok (.istore 4, 2) := by decide +kernel
theorem dX1_weigh_54 : decode cX1_weigh 54 = .ok (.iload 4, 2) := by decide +kernel
theorem dX1_weigh_56 : decode cX1_weigh 56 = .ok (.sipush 128, 3) := by decide +kernel
theorem dX1_weigh_59 : decode cX1_weigh 59 = .ok (.if_icmp .ge 32, 3) := by decide +kernel
theorem dX1_weigh_62 : decode cX1_weigh 62 = .ok (.aload_n 0, 1) := by decide +kernel
theorem dX1_weigh_63 : decode cX1_weigh 63 = .ok (.getfield 9, 3) := by decide +kernel
theorem dX1_weigh_66 : decode cX1_weigh 66 = .ok (.iload_n 2, 1) := by decide +kernel
theorem dX1_weigh_67 : decode cX1_weigh 67 = .ok (.sipush 128, 3) := by decide +kernel
theorem dX1_weigh_70 : decode cX1_weigh 70 = .ok (.imul, 1) := by decide +kernel
theorem dX1_weigh_71 : decode cX1_weigh 71 = .ok (.iload 4, 2) := by decide +kernel
theorem dX1_weigh_73 : decode cX1_weigh 73 = .ok (.iadd, 1) := by decide +kernel
theorem dX1_weigh_74 : decode cX1_weigh 74 = .ok (.aload_n 0, 1) := by decide +kernel
theorem dX1_weigh_75 : decode cX1_weigh 75 = .ok (.iload_n 2, 1) := by decide +kernel
theorem dX1_weigh_76 : decode cX1_weigh 76 = .ok (.iload 4, 2) := by decide +kernel
theorem dX1_weigh_78 : decode cX1_weigh 78 = .ok (.iload_n 3, 1) := by decide +kernel
theorem dX1_weigh_79 : decode cX1_weigh 79 = .ok (.invokevirtual 29, 3) := by decide +kernel
theorem dX1_weigh_82 : decode cX1_weigh 82 = .ok (.invokestatic 21, 3) := by decide +kernel
theorem dX1_weigh_85 : decode cX1_weigh 85 = .ok (.iinc 4 1, 3) := by decide +kernel
theorem dX1_weigh_88 : decode cX1_weigh 88 = .ok (.goto (-34), 3) := by decide +kernel
theorem dX1_weigh_91 : decode cX1_weigh 91 = .ok (.iinc 2 (-1), 3) := by decide +kernel
theorem dX1_weigh_94 : decode cX1_weigh 94 = .ok (.goto (-54), 3) := by decide +kernel
theorem dX1_weigh_97 : decode cX1_weigh 97 = .ok (.return_, 1) := by decide +kernel
set_option maxRecDepth 20000 in
theorem ggX1_mostFrom_X5_of : GoodIn wsX1_mostFrom wsX5_of := goodIn_r _ [4] (by decide +kernel) (by decide +kernel)
set_option maxRecDepth 20000 in
theorem gX1_mostFrom_X5_of_n33 : GoodIn wsX1_mostFrom (wsX5_of) := ggX1_mostFrom_X5_of
theorem dX1_mostFrom_0 : decode cX1_mostFrom 0 = .ok (.aload_n 0, 1) := by decide +kernel
theorem dX1_mostFrom_1 : decode cX1_mostFrom 1 = .ok (.getfield 9, 3) := by decide +kernel
theorem dX1_mostFrom_4 : decode cX1_mostFrom 4 = .ok (.iload_n 1, 1) := by decide +kernel
theorem dX1_mostFrom_5 : decode cX1_mostFrom 5 = .ok (.sipush 128, 3) := by decide +kernel
theorem dX1_mostFrom_8 : decode cX1_mostFrom 8 = .ok (.imul, 1) := by decide +kernel
theorem dX1_mostFrom_9 : decode cX1_mostFrom 9 = .ok (.iload_n 2, 1) := by decide +kernel
theorem dX1_mostFrom_10 : decode cX1_mostFrom 10 = .ok (.iadd, 1) := by decide +kernel
theorem dX1_mostFrom_11 : decode cX1_mostFrom 11 = .ok (.invokestatic 33, 3) := by decide +kernel
theorem dX1_mostFrom_14 : decode cX1_mostFrom 14 = .ok (.ireturn, 1) := by decide +kernel
set_option maxRecDepth 20000 in
theorem ggX1_receiver_X1_takers : GoodIn wsX1_receiver wsX1_takers := goodIn_r _ [5, 6, 7, 8, 9, 10, 11, 12, 13, 14, 15, 16, 17, 18, 19, 20, 21, 22, 23, 24, 36, 37, 38, 39, 40, 41, 42, 43, 44] (by decide +kernel) (by decide +kernel)
set_option maxRecDepth 20000 in
theorem gX1_receiver_X1_takers : GoodIn wsX1_receiver (wsV RX1 25 RX1 yX1_takers wsX1_takers) := goodIn_app (goodIn_of _ (by decide +kernel)) ggX1_receiver_X1_takers
set_option maxRecDepth 20000 in
theorem ggX1_receiver_X1_choice : GoodIn wsX1_receiver wsX1_choice := goodIn_r _ [28, 29, 13, 30, 31, 32, 33, 4, 34, 35, 12, 14, 45] (by decide +kernel) (by decide +kernel)
set_option maxRecDepth 20000 in
theorem gX1_receiver_X1_choice : GoodIn wsX1_receiver (wsV RX1 37 RX1 yX1_choice wsX1_choice) := goodIn_app (goodIn_of _ (by decide +kernel)) ggX1_receiver_X1_choice
theorem dX1_receiver_0 : decode cX1_receiver 0 = .ok (.iconst 0, 1) := by decide +kernel
theorem dX1_receiver_1 : decode cX1_receiver 1 = .ok (.istore_n 3, 1) := by decide +kernel
theorem dX1_receiver_2 : decode cX1_receiver 2 = .ok (.bipush (-4), 2) := by decide +kernel
theorem dX1_receiver_4 : decode cX1_receiver 4 = .ok (.istore 4, 2) := by decide +kernel
theorem dX1_receiver_6 : decode cX1_receiver 6 = .ok (.iconst 0, 1) := by decide +kernel
theorem dX1_receiver_7 : decode cX1_receiver 7 = .ok (.istore 5, 2) := by decide +kernel
theorem dX1_receiver_9 : decode cX1_receiver 9 = .ok (.iload 5, 2) := by decide +kernel
theorem dX1_receiver_11 : decode cX1_receiver 11 = .ok (.iload_n 2, 1) := by decide +kernel
theorem dX1_receiver_12 : decode cX1_receiver 12 = .ok (.if_icmp .gt 48, 3) := by decide +kernel
theorem dX1_receiver_15 : decode cX1_receiver 15 = .ok (.iload 5, 2) := by decide +kernel
theorem dX1_receiver_17 : decode cX1_receiver 17 = .ok (.aload_n 1, 1) := by decide +kernel
theorem dX1_receiver_18 : decode cX1_receiver 18 = .ok (.getfield 15, 3) := by decide +kernel
theorem dX1_receiver_21 : decode cX1_receiver 21 = .ok (.if_icmp .ge 39, 3) := by decide +kernel
theorem dX1_receiver_24 : decode cX1_receiver 24 = .ok (.aload_n 0, 1) := by decide +kernel
theorem dX1_receiver_25 : decode cX1_receiver 25 = .ok (.iload 5, 2) := by decide +kernel
theorem dX1_receiver_27 : decode cX1_receiver 27 = .ok (.iload_n 3, 1) := by decide +kernel
theorem dX1_receiver_28 : decode cX1_receiver 28 = .ok (.aload_n 0, 1) := by decide +kernel
theorem dX1_receiver_29 : decode cX1_receiver 29 = .ok (.aload_n 1, 1) := by decide +kernel
theorem dX1_receiver_30 : decode cX1_receiver 30 = .ok (.iload 5, 2) := by decide +kernel
theorem dX1_receiver_32 : decode cX1_receiver 32 = .ok (.invokevirtual 25, 3) := by decide +kernel
theorem dX1_receiver_35 : decode cX1_receiver 35 = .ok (.invokevirtual 37, 3) := by decide +kernel
theorem dX1_receiver_38 : decode cX1_receiver 38 = .ok (.istore 4, 2) := by decide +kernel
theorem dX1_receiver_40 : decode cX1_receiver 40 = .ok (.iload 4, 2) := by decide +kernel
theorem dX1_receiver_42 : decode cX1_receiver 42 = .ok (.bipush (-4), 2) := by decide +kernel
theorem dX1_receiver_44 : decode cX1_receiver 44 = .ok (.if_icmp .eq 10, 3) := by decide +kernel
theorem dX1_receiver_47 : decode cX1_receiver 47 = .ok (.iload_n 3, 1) := by decide +kernel
theorem dX1_receiver_48 : decode cX1_receiver 48 = .ok (.iconst 1, 1) := by decide +kernel
theorem dX1_receiver_49 : decode cX1_receiver 49 = .ok (.iload 4, 2) := by decide +kernel
theorem dX1_receiver_51 : decode cX1_receiver 51 = .ok (.ishl, 1) := by decide +kernel
theorem dX1_receiver_52 : decode cX1_receiver 52 = .ok (.ior, 1) := by decide +kernel
theorem dX1_receiver_53 : decode cX1_receiver 53 = .ok (.istore_n 3, 1) := by decide +kernel
theorem dX1_receiver_54 : decode cX1_receiver 54 = .ok (.iinc 5 1, 3) := by decide +kernel
theorem dX1_receiver_57 : decode cX1_receiver 57 = .ok (.goto (-48), 3) := by decide +kernel
theorem dX1_receiver_60 : decode cX1_receiver 60 = .ok (.iload 4, 2) := by decide +kernel
theorem dX1_receiver_62 : decode cX1_receiver 62 = .ok (.ireturn, 1) := by decide +kernel
set_option maxRecDepth 20000 in
theorem ggX1_takers_X0_isKnown : GoodIn wsX1_takers wsX0_isKnown := goodIn_r _ [5, 6, 7, 8, 9, 20, 21, 22, 23, 24, 25, 26, 27, 28] (by decide +kernel) (by decide +kernel)
set_option maxRecDepth 20000 in
theorem gX1_takers_X0_isKnown : GoodIn wsX1_takers (wsV RX1 40 RX0 yX0_isKnown wsX0_isKnown) := goodIn_app (goodIn_of _ (by decide +kernel)) ggX1_takers_X0_isKnown
set_option maxRecDepth 20000 in
theorem ggX1_takers_X0_doubters : GoodIn wsX1_takers wsX0_doubters := goodIn_r _ [13, 14, 15, 16, 17, 4, 18, 19, 7, 8, 9, 20, 21, 22, 23, 24, 25, 26, 27, 28] (by decide +kernel) (by decide +kernel)
set_option maxRecDepth 20000 in
theorem gX1_takers_X0_doubters : GoodIn wsX1_takers (wsV RX1 44 RX0 yX0_doubters wsX0_doubters) := goodIn_app (goodIn_of _ (by decide +kernel)) ggX1_takers_X0_doubters
theorem dX1_takers_0 : decode cX1_takers 0 = .ok (.aload_n 1, 1) := by decide +kernel
theorem dX1_takers_1 : decode cX1_takers 1 = .ok (.iload_n 2, 1) := by decide +kernel
theorem dX1_takers_2 : decode cX1_takers 2 = .ok (.invokevirtual 40, 3) := by decide +kernel
theorem dX1_takers_5 : decode cX1_takers 5 = .ok (.ifCond .eq 7, 3) := by decide +kernel
theorem dX1_takers_8 : decode cX1_takers 8 = .ok (.iconst 0, 1) := by decide +kernel
theorem dX1_takers_9 : decode cX1_takers 9 = .ok (.goto 8, 3) := by decide +kernel
theorem dX1_takers_12 : decode cX1_takers 12 = .ok (.aload_n 1, 1) := by decide +kernel
theorem dX1_takers_13 : decode cX1_takers 13 = .ok (.iload_n 2, 1) := by decide +kernel
theorem dX1_takers_14 : decode cX1_takers 14 = .ok (.invokevirtual 44, 3) := by decide +kernel
theorem dX1_takers_17 : decode cX1_takers 17 = .ok (.ireturn, 1) := by decide +kernel
set_option maxRecDepth 20000 in
theorem ggX1_best_X1_mostFrom : GoodIn wsX1_best wsX1_mostFrom := goodIn_r _ [9, 10, 11, 12, 13, 16] (by decide +kernel) (by decide +kernel)
set_option maxRecDepth 20000 in
theorem gX1_best_X1_mostFrom : GoodIn wsX1_best (wsV RX1 48 RX1 yX1_mostFrom wsX1_mostFrom) := goodIn_app (goodIn_of _ (by decide +kernel)) ggX1_best_X1_mostFrom
set_option maxRecDepth 20000 in
theorem ggX1_best_X5_hasBit : GoodIn wsX1_best wsX5_hasBit := goodIn_r _ [15] (by decide +kernel) (by decide +kernel)
set_option maxRecDepth 20000 in
theorem gX1_best_X5_hasBit_n52 : GoodIn wsX1_best (wsX5_hasBit) := ggX1_best_X5_hasBit
theorem dX1_best_0 : decode cX1_best 0 = .ok (.aload_n 0, 1) := by decide +kernel
theorem dX1_best_1 : decode cX1_best 1 = .ok (.iload_n 1, 1) := by decide +kernel
theorem dX1_best_2 : decode cX1_best 2 = .ok (.iconst 1, 1) := by decide +kernel
theorem dX1_best_3 : decode cX1_best 3 = .ok (.iadd, 1) := by decide +kernel
theorem dX1_best_4 : decode cX1_best 4 = .ok (.iload_n 2, 1) := by decide +kernel
theorem dX1_best_5 : decode cX1_best 5 = .ok (.invokevirtual 48, 3) := by decide +kernel
theorem dX1_best_8 : decode cX1_best 8 = .ok (.istore 4, 2) := by decide +kernel
theorem dX1_best_10 : decode cX1_best 10 = .ok (.iconst 0, 1) := by decide +kernel
theorem dX1_best_11 : decode cX1_best 11 = .ok (.istore 5, 2) := by decide +kernel
theorem dX1_best_13 : decode cX1_best 13 = .ok (.iload 5, 2) := by decide +kernel
theorem dX1_best_15 : decode cX1_best 15 = .ok (.bipush 7, 2) := by decide +kernel
theorem dX1_best_17 : decode cX1_best 17 = .ok (.if_icmp .ge 44, 3) := by decide +kernel
theorem dX1_best_20 : decode cX1_best 20 = .ok (.iload_n 3, 1) := by decide +kernel
theorem dX1_best_21 : decode cX1_best 21 = .ok (.iload_n 2, 1) := by decide +kernel
theorem dX1_best_22 : decode cX1_best 22 = .ok (.iconst (-1), 1) := by decide +kernel
theorem dX1_best_23 : decode cX1_best 23 = .ok (.ixor, 1) := by decide +kernel
theorem dX1_best_24 : decode cX1_best 24 = .ok (.iand, 1) := by decide +kernel
theorem dX1_best_25 : decode cX1_best 25 = .ok (.iload 5, 2) := by decide +kernel
theorem dX1_best_27 : decode cX1_best 27 = .ok (.invokestatic 52, 3) := by decide +kernel
theorem dX1_best_30 : decode cX1_best 30 = .ok (.ifCond .eq 25, 3) := by decide +kernel
theorem dX1_best_33 : decode cX1_best 33 = .ok (.iload 4, 2) := by decide +kernel
theorem dX1_best_35 : decode cX1_best 35 = .ok (.iconst 1, 1) := by decide +kernel
theorem dX1_best_36 : decode cX1_best 36 = .ok (.aload_n 0, 1) := by decide +kernel
theorem dX1_best_37 : decode cX1_best 37 = .ok (.iload_n 1, 1) := by decide +kernel
theorem dX1_best_38 : decode cX1_best 38 = .ok (.iconst 1, 1) := by decide +kernel
theorem dX1_best_39 : decode cX1_best 39 = .ok (.iadd, 1) := by decide +kernel
theorem dX1_best_40 : decode cX1_best 40 = .ok (.iload_n 2, 1) := by decide +kernel
theorem dX1_best_41 : decode cX1_best 41 = .ok (.iconst 1, 1) := by decide +kernel
theorem dX1_best_42 : decode cX1_best 42 = .ok (.iload 5, 2) := by decide +kernel
theorem dX1_best_44 : decode cX1_best 44 = .ok (.ishl, 1) := by decide +kernel
theorem dX1_best_45 : decode cX1_best 45 = .ok (.ior, 1) := by decide +kernel
theorem dX1_best_46 : decode cX1_best 46 = .ok (.invokevirtual 48, 3) := by decide +kernel
theorem dX1_best_49 : decode cX1_best 49 = .ok (.iadd, 1) := by decide +kernel
theorem dX1_best_50 : decode cX1_best 50 = .ok (.invokestatic 56, 3) := by decide +kernel
theorem dX1_best_53 : decode cX1_best 53 = .ok (.istore 4, 2) := by decide +kernel
theorem dX1_best_55 : decode cX1_best 55 = .ok (.iinc 5 1, 3) := by decide +kernel
theorem dX1_best_58 : decode cX1_best 58 = .ok (.goto (-45), 3) := by decide +kernel
theorem dX1_best_61 : decode cX1_best 61 = .ok (.iload 4, 2) := by decide +kernel
theorem dX1_best_63 : decode cX1_best 63 = .ok (.ireturn, 1) := by decide +kernel
set_option maxRecDepth 20000 in
theorem ggX1_choice_X5_hasBit : GoodIn wsX1_choice wsX5_hasBit := goodIn_r _ [3] (by decide +kernel) (by decide +kernel)
set_option maxRecDepth 20000 in
theorem gX1_choice_X5_hasBit_n52 : GoodIn wsX1_choice (wsX5_hasBit) := ggX1_choice_X5_hasBit
set_option maxRecDepth 20000 in
theorem ggX1_choice_X1_mostFrom : GoodIn wsX1_choice wsX1_mostFrom := goodIn_r _ [8, 9, 10, 2, 11, 12] (by decide +kernel) (by decide +kernel)
set_option maxRecDepth 20000 in
theorem gX1_choice_X1_mostFrom : GoodIn wsX1_choice (wsV RX1 48 RX1 yX1_mostFrom wsX1_mostFrom) := goodIn_app (goodIn_of _ (by decide +kernel)) ggX1_choice_X1_mostFrom
theorem dX1_choice_0 : decode cX1_choice 0 = .ok (.iconst 0, 1) := by decide +kernel
theorem dX1_choice_1 : decode cX1_choice 1 = .ok (.istore 4, 2) := by decide +kernel
theorem dX1_choice_3 : decode cX1_choice 3 = .ok (.iload 4, 2) := by decide +kernel
theorem dX1_choice_5 : decode cX1_choice 5 = .ok (.bipush 7, 2) := by decide +kernel
theorem dX1_choice_7 : decode cX1_choice 7 = .ok (.if_icmp .ge 49, 3) := by decide +kernel
theorem dX1_choice_10 : decode cX1_choice 10 = .ok (.iload_n 3, 1) := by decide +kernel
theorem dX1_choice_11 : decode cX1_choice 11 = .ok (.iload_n 2, 1) := by decide +kernel
theorem dX1_choice_12 : decode cX1_choice 12 = .ok (.iconst (-1), 1) := by decide +kernel
theorem dX1_choice_13 : decode cX1_choice 13 = .ok (.ixor, 1) := by decide +kernel
theorem dX1_choice_14 : decode cX1_choice 14 = .ok (.iand, 1) := by decide +kernel
theorem dX1_choice_15 : decode cX1_choice 15 = .ok (.iload 4, 2) := by decide +kernel
theorem dX1_choice_17 : decode cX1_choice 17 = .ok (.invokestatic 52, 3) := by decide +kernel
theorem dX1_choice_20 : decode cX1_choice 20 = .ok (.ifCond .eq 30, 3) := by decide +kernel
theorem dX1_choice_23 : decode cX1_choice 23 = .ok (.iconst 1, 1) := by decide +kernel
theorem dX1_choice_24 : decode cX1_choice 24 = .ok (.aload_n 0, 1) := by decide +kernel
theorem dX1_choice_25 : decode cX1_choice 25 = .ok (.iload_n 1, 1) := by decide +kernel
theorem dX1_choice_26 : decode cX1_choice 26 = .ok (.iconst 1, 1) := by decide +kernel
theorem dX1_choice_27 : decode cX1_choice 27 = .ok (.iadd, 1) := by decide +kernel
theorem dX1_choice_28 : decode cX1_choice 28 = .ok (.iload_n 2, 1) := by decide +kernel
theorem dX1_choice_29 : decode cX1_choice 29 = .ok (.iconst 1, 1) := by decide +kernel
theorem dX1_choice_30 : decode cX1_choice 30 = .ok (.iload 4, 2) := by decide +kernel
theorem dX1_choice_32 : decode cX1_choice 32 = .ok (.ishl, 1) := by decide +kernel
theorem dX1_choice_33 : decode cX1_choice 33 = .ok (.ior, 1) := by decide +kernel
theorem dX1_choice_34 : decode cX1_choice 34 = .ok (.invokevirtual 48, 3) := by decide +kernel
theorem dX1_choice_37 : decode cX1_choice 37 = .ok (.iadd, 1) := by decide +kernel
theorem dX1_choice_38 : decode cX1_choice 38 = .ok (.aload_n 0, 1) := by decide +kernel
theorem dX1_choice_39 : decode cX1_choice 39 = .ok (.iload_n 1, 1) := by decide +kernel
theorem dX1_choice_40 : decode cX1_choice 40 = .ok (.iload_n 2, 1) := by decide +kernel
theorem dX1_choice_41 : decode cX1_choice 41 = .ok (.invokevirtual 48, 3) := by decide +kernel
theorem dX1_choice_44 : decode cX1_choice 44 = .ok (.if_icmp .ne 6, 3) := by decide +kernel
theorem dX1_choice_47 : decode cX1_choice 47 = .ok (.iload 4, 2) := by decide +kernel
theorem dX1_choice_49 : decode cX1_choice 49 = .ok (.ireturn, 1) := by decide +kernel
theorem dX1_choice_50 : decode cX1_choice 50 = .ok (.iinc 4 1, 3) := by decide +kernel
theorem dX1_choice_53 : decode cX1_choice 53 = .ok (.goto (-50), 3) := by decide +kernel
theorem dX1_choice_56 : decode cX1_choice 56 = .ok (.bipush (-4), 2) := by decide +kernel
theorem dX1_choice_58 : decode cX1_choice 58 = .ok (.ireturn, 1) := by decide +kernel
set_option maxRecDepth 20000 in
theorem ggX2_init_X0_init : GoodIn wsX2_init wsX0_init := goodIn_r _ [9, 10, 2, 3, 11, 12, 13, 14, 15, 16, 17, 20, 21, 22, 23, 24, 25, 26, 27, 28] (by decide +kernel) (by decide +kernel)
set_option maxRecDepth 20000 in
theorem gX2_init_X0_init_n15 : GoodIn wsX2_init (wsX0_init) := ggX2_init_X0_init
theorem dX2_init_0 : decode cX2_init 0 = .ok (.aload_n 0, 1) := by decide +kernel
theorem dX2_init_1 : decode cX2_init 1 = .ok (.invokespecial 1, 3) := by decide +kernel
theorem dX2_init_4 : decode cX2_init 4 = .ok (.aload_n 0, 1) := by decide +kernel
theorem dX2_init_5 : decode cX2_init 5 = .ok (.iload_n 1, 1) := by decide +kernel
theorem dX2_init_6 : decode cX2_init 6 = .ok (.ifCond .ge 7, 3) := by decide +kernel
theorem dX2_init_9 : decode cX2_init 9 = .ok (.iconst 0, 1) := by decide +kernel
theorem dX2_init_10 : decode cX2_init 10 = .ok (.goto 4, 3) := by decide +kernel
theorem dX2_init_13 : decode cX2_init 13 = .ok (.iload_n 1, 1) := by decide +kernel
theorem dX2_init_14 : decode cX2_init 14 = .ok (.anewarray 7, 3) := by decide +kernel
theorem dX2_init_17 : decode cX2_init 17 = .ok (.putfield 9, 3) := by decide +kernel
theorem dX2_init_20 : decode cX2_init 20 = .ok (.iconst 0, 1) := by decide +kernel
theorem dX2_init_21 : decode cX2_init 21 = .ok (.istore_n 2, 1) := by decide +kernel
theorem dX2_init_22 : decode cX2_init 22 = .ok (.iload_n 2, 1) := by decide +kernel
theorem dX2_init_23 : decode cX2_init 23 = .ok (.aload_n 0, 1) := by decide +kernel
theorem dX2_init_24 : decode cX2_init 24 = .ok (.getfield 9, 3) := by decide +kernel
theorem dX2_init_27 : decode cX2_init 27 = .ok (.arraylength, 1) := by decide +kernel
theorem dX2_init_28 : decode cX2_init 28 = .ok (.if_icmp .ge 22, 3) := by decide +kernel
theorem dX2_init_31 : decode cX2_init 31 = .ok (.aload_n 0, 1) := by decide +kernel
theorem dX2_init_32 : decode cX2_init 32 = .ok (.getfield 9, 3) := by decide +kernel
theorem dX2_init_35 : decode cX2_init 35 = .ok (.iload_n 2, 1) := by decide +kernel
theorem dX2_init_36 : decode cX2_init 36 = .ok (.new 7, 3) := by decide +kernel
theorem dX2_init_39 : decode cX2_init 39 = .ok (.dup, 1) := by decide +kernel
theorem dX2_init_40 : decode cX2_init 40 = .ok (.invokespecial 15, 3) := by decide +kernel
theorem dX2_init_43 : decode cX2_init 43 = .ok (.aastore, 1) := by decide +kernel
theorem dX2_init_44 : decode cX2_init 44 = .ok (.iinc 2 1, 3) := by decide +kernel
theorem dX2_init_47 : decode cX2_init 47 = .ok (.goto (-25), 3) := by decide +kernel
theorem dX2_init_50 : decode cX2_init 50 = .ok (.return_, 1) := by decide +kernel
theorem dX2_clear_0 : decode cX2_clear 0 = .ok (.aload_n 0, 1) := by decide +kernel
theorem dX2_clear_1 : decode cX2_clear 1 = .ok (.iconst 0, 1) := by decide +kernel
theorem dX2_clear_2 : decode cX2_clear 2 = .ok (.putfield 16, 3) := by decide +kernel
theorem dX2_clear_5 : decode cX2_clear 5 = .ok (.return_, 1) := by decide +kernel
set_option maxRecDepth 20000 in
theorem ggX2_push_X2_loseOldest : GoodIn wsX2_push wsX2_loseOldest := goodIn_r _ [7, 2, 1, 30, 31] (by decide +kernel) (by decide +kernel)
set_option maxRecDepth 20000 in
theorem gX2_push_X2_loseOldest : GoodIn wsX2_push (wsV RX2 20 RX2 yX2_loseOldest wsX2_loseOldest) := goodIn_app (goodIn_of _ (by decide +kernel)) ggX2_push_X2_loseOldest
set_option maxRecDepth 20000 in
theorem ggX2_push_X2_last : GoodIn wsX2_push wsX2_last := goodIn_r _ [11, 1, 2, 30, 31] (by decide +kernel) (by decide +kernel)
set_option maxRecDepth 20000 in
theorem gX2_push_X2_last : GoodIn wsX2_push (wsV RX2 23 RX2 yX2_last wsX2_last) := goodIn_app (goodIn_of _ (by decide +kernel)) ggX2_push_X2_last
set_option maxRecDepth 20000 in
theorem ggX2_push_X0_copyFrom : GoodIn wsX2_push wsX0_copyFrom := goodIn_r _ [16, 17, 18, 19, 20, 21, 22, 23, 24, 25, 26, 27, 28, 29, 32, 33, 34, 35, 36, 37, 38, 39, 40] (by decide +kernel) (by decide +kernel)
set_option maxRecDepth 20000 in
theorem gX2_push_X0_copyFrom : GoodIn wsX2_push (wsV RX2 27 RX0 yX0_copyFrom wsX0_copyFrom) := goodIn_app (goodIn_of _ (by decide +kernel)) ggX2_push_X0_copyFrom
theorem dX2_push_0 : decode cX2_push 0 = .ok (.aload_n 0, 1) := by decide +kernel
theorem dX2_push_1 : decode cX2_push 1 = .ok (.getfield 16, 3) := by decide +kernel
theorem dX2_push_4 : decode cX2_push 4 = .ok (.aload_n 0, 1) := by decide +kernel
theorem dX2_push_5 : decode cX2_push 5 = .ok (.getfield 9, 3) := by decide +kernel
theorem dX2_push_8 : decode cX2_push 8 = .ok (.arraylength, 1) := by decide +kernel
theorem dX2_push_9 : decode cX2_push 9 = .ok (.if_icmp .lt 7, 3) := by decide +kernel
theorem dX2_push_12 : decode cX2_push 12 = .ok (.aload_n 0, 1) := by decide +kernel
theorem dX2_push_13 : decode cX2_push 13 = .ok (.invokevirtual 20, 3) := by decide +kernel
theorem dX2_push_16 : decode cX2_push 16 = .ok (.aload_n 0, 1) := by decide +kernel
theorem dX2_push_17 : decode cX2_push 17 = .ok (.dup, 1) := by decide +kernel
theorem dX2_push_18 : decode cX2_push 18 = .ok (.getfield 16, 3) := by decide +kernel
theorem dX2_push_21 : decode cX2_push 21 = .ok (.iconst 1, 1) := by decide +kernel
theorem dX2_push_22 : decode cX2_push 22 = .ok (.iadd, 1) := by decide +kernel
theorem dX2_push_23 : decode cX2_push 23 = .ok (.putfield 16, 3) := by decide +kernel
theorem dX2_push_26 : decode cX2_push 26 = .ok (.aload_n 0, 1) := by decide +kernel
theorem dX2_push_27 : decode cX2_push 27 = .ok (.invokevirtual 23, 3) := by decide +kernel
theorem dX2_push_30 : decode cX2_push 30 = .ok (.astore_n 2, 1) := by decide +kernel
theorem dX2_push_31 : decode cX2_push 31 = .ok (.aload_n 2, 1) := by decide +kernel
theorem dX2_push_32 : decode cX2_push 32 = .ok (.ifnull 8, 3) := by decide +kernel
theorem dX2_push_35 : decode cX2_push 35 = .ok (.aload_n 2, 1) := by decide +kernel
theorem dX2_push_36 : decode cX2_push 36 = .ok (.aload_n 1, 1) := by decide +kernel
theorem dX2_push_37 : decode cX2_push 37 = .ok (.invokevirtual 27, 3) := by decide +kernel
theorem dX2_push_40 : decode cX2_push 40 = .ok (.return_, 1) := by decide +kernel
set_option maxRecDepth 20000 in
theorem ggX2_pullInto_X2_last : GoodIn wsX2_pullInto wsX2_last := goodIn_r _ [6, 1, 7, 26, 27] (by decide +kernel) (by decide +kernel)
set_option maxRecDepth 20000 in
theorem gX2_pullInto_X2_last : GoodIn wsX2_pullInto (wsV RX2 23 RX2 yX2_last wsX2_last) := goodIn_app (goodIn_of _ (by decide +kernel)) ggX2_pullInto_X2_last
set_option maxRecDepth 20000 in
theorem ggX2_pullInto_X0_copyFrom : GoodIn wsX2_pullInto wsX0_copyFrom := goodIn_r _ [12, 13, 14, 15, 16, 17, 18, 19, 20, 21, 22, 23, 24, 25, 28, 29, 30, 31, 32, 33, 34, 35, 36] (by decide +kernel) (by decide +kernel)
set_option maxRecDepth 20000 in
theorem gX2_pullInto_X0_copyFrom : GoodIn wsX2_pullInto (wsV RX2 27 RX0 yX0_copyFrom wsX0_copyFrom) := goodIn_app (goodIn_of _ (by decide +kernel)) ggX2_pullInto_X0_copyFrom
theorem dX2_pullInto_0 : decode cX2_pullInto 0 = .ok (.aload_n 0, 1) := by decide +kernel
theorem dX2_pullInto_1 : decode cX2_pullInto 1 = .ok (.invokevirtual 23, 3) := by decide +kernel
theorem dX2_pullInto_4 : decode cX2_pullInto 4 = .ok (.astore_n 2, 1) := by decide +kernel
theorem dX2_pullInto_5 : decode cX2_pullInto 5 = .ok (.aload_n 2, 1) := by decide +kernel
theorem dX2_pullInto_6 : decode cX2_pullInto 6 = .ok (.ifnonnull 5, 3) := by decide +kernel
theorem dX2_pullInto_9 : decode cX2_pullInto 9 = .ok (.iconst 0, 1) := by decide +kernel
theorem dX2_pullInto_10 : decode cX2_pullInto 10 = .ok (.ireturn, 1) := by decide +kernel
theorem dX2_pullInto_11 : decode cX2_pullInto 11 = .ok (.aload_n 1, 1) := by decide +kernel
theorem dX2_pullInto_12 : decode cX2_pullInto 12 = .ok (.aload_n 2, 1) := by decide +kernel
theorem dX2_pullInto_13 : decode cX2_pullInto 13 = .ok (.invokevirtual 27, 3) := by decide +kernel
theorem dX2_pullInto_16 : decode cX2_pullInto 16 = .ok (.aload_n 0, 1) := by decide +kernel
theorem dX2_pullInto_17 : decode cX2_pullInto 17 = .ok (.dup, 1) := by decide +kernel
theorem dX2_pullInto_18 : decode cX2_pullInto 18 = .ok (.getfield 16, 3) := by decide +kernel
theorem dX2_pullInto_21 : decode cX2_pullInto 21 = .ok (.iconst 1, 1) := by decide +kernel
theorem dX2_pullInto_22 : decode cX2_pullInto 22 = .ok (.isub, 1) := by decide +kernel
theorem dX2_pullInto_23 : decode cX2_pullInto 23 = .ok (.putfield 16, 3) := by decide +kernel
theorem dX2_pullInto_26 : decode cX2_pullInto 26 = .ok (.iconst 1, 1) := by decide +kernel
theorem dX2_pullInto_27 : decode cX2_pullInto 27 = .ok (.ireturn, 1) := by decide +kernel
theorem dX2_drop_0 : decode cX2_drop 0 = .ok (.aload_n 0, 1) := by decide +kernel
theorem dX2_drop_1 : decode cX2_drop 1 = .ok (.iconst 0, 1) := by decide +kernel
theorem dX2_drop_2 : decode cX2_drop 2 = .ok (.aload_n 0, 1) := by decide +kernel
theorem dX2_drop_3 : decode cX2_drop 3 = .ok (.getfield 16, 3) := by decide +kernel
theorem dX2_drop_6 : decode cX2_drop 6 = .ok (.iconst 1, 1) := by decide +kernel
theorem dX2_drop_7 : decode cX2_drop 7 = .ok (.isub, 1) := by decide +kernel
theorem dX2_drop_8 : decode cX2_drop 8 = .ok (.invokestatic 31, 3) := by decide +kernel
theorem dX2_drop_11 : decode cX2_drop 11 = .ok (.putfield 16, 3) := by decide +kernel
theorem dX2_drop_14 : decode cX2_drop 14 = .ok (.return_, 1) := by decide +kernel
theorem dX2_last_0 : decode cX2_last 0 = .ok (.aload_n 0, 1) := by decide +kernel
theorem dX2_last_1 : decode cX2_last 1 = .ok (.getfield 16, 3) := by decide +kernel
theorem dX2_last_4 : decode cX2_last 4 = .ok (.iconst 1, 1) := by decide +kernel
theorem dX2_last_5 : decode cX2_last 5 = .ok (.isub, 1) := by decide +kernel
theorem dX2_last_6 : decode cX2_last 6 = .ok (.istore_n 1, 1) := by decide +kernel
theorem dX2_last_7 : decode cX2_last 7 = .ok (.iload_n 1, 1) := by decide +kernel
theorem dX2_last_8 : decode cX2_last 8 = .ok (.ifCond .lt 21, 3) := by decide +kernel
theorem dX2_last_11 : decode cX2_last 11 = .ok (.iload_n 1, 1) := by decide +kernel
theorem dX2_last_12 : decode cX2_last 12 = .ok (.aload_n 0, 1) := by decide +kernel
theorem dX2_last_13 : decode cX2_last 13 = .ok (.getfield 9, 3) := by decide +kernel
theorem dX2_last_16 : decode cX2_last 16 = .ok (.arraylength, 1) := by decide +kernel
theorem dX2_last_17 : decode cX2_last 17 = .ok (.if_icmp .ge 12, 3) := by decide +kernel
theorem dX2_last_20 : decode cX2_last 20 = .ok (.aload_n 0, 1) := by decide +kernel
theorem dX2_last_21 : decode cX2_last 21 = .ok (.getfield 9, 3) := by decide +kernel
theorem dX2_last_24 : decode cX2_last 24 = .ok (.iload_n 1, 1) := by decide +kernel
theorem dX2_last_25 : decode cX2_last 25 = .ok (.aaload, 1) := by decide +kernel
theorem dX2_last_26 : decode cX2_last 26 = .ok (.goto 4, 3) := by decide +kernel
theorem dX2_last_29 : decode cX2_last 29 = .ok (.aconst_null, 1) := by decide +kernel
theorem dX2_last_30 : decode cX2_last 30 = .ok (.areturn, 1) := by decide +kernel
theorem dX2_loseOldest_0 : decode cX2_loseOldest 0 = .ok (.aload_n 0, 1) := by decide +kernel
theorem dX2_loseOldest_1 : decode cX2_loseOldest 1 = .ok (.getfield 9, 3) := by decide +kernel
theorem dX2_loseOldest_4 : decode cX2_loseOldest 4 = .ok (.arraylength, 1) := by decide +kernel
theorem dX2_loseOldest_5 : decode cX2_loseOldest 5 = .ok (.iconst 1, 1) := by decide +kernel
theorem dX2_loseOldest_6 : decode cX2_loseOldest 6 = .ok (.if_icmp .lt 11, 3) := by decide +kernel
theorem dX2_loseOldest_9 : decode cX2_loseOldest 9 = .ok (.aload_n 0, 1) := by decide +kernel
theorem dX2_loseOldest_10 : decode cX2_loseOldest 10 = .ok (.getfield 16, 3) := by decide +kernel
theorem dX2_loseOldest_13 : decode cX2_loseOldest 13 = .ok (.iconst 1, 1) := by decide +kernel
theorem dX2_loseOldest_14 : decode cX2_loseOldest 14 = .ok (.if_icmp .ge 4, 3) := by decide +kernel
theorem dX2_loseOldest_17 : decode cX2_loseOldest 17 = .ok (.return_, 1) := by decide +kernel
theorem dX2_loseOldest_18 : decode cX2_loseOldest 18 = .ok (.aload_n 0, 1) := by decide +kernel
theorem dX2_loseOldest_19 : decode cX2_loseOldest 19 = .ok (.getfield 9, 3) := by decide +kernel
theorem dX2_loseOldest_22 : decode cX2_loseOldest 22 = .ok (.iconst 0, 1) := by decide +kernel
theorem dX2_loseOldest_23 : decode cX2_loseOldest 23 = .ok (.aaload, 1) := by decide +kernel
theorem dX2_loseOldest_24 : decode cX2_loseOldest 24 = .ok (.astore_n 1, 1) := by decide +kernel
theorem dX2_loseOldest_25 : decode cX2_loseOldest 25 = .ok (.iconst 1, 1) := by decide +kernel
theorem dX2_loseOldest_26 : decode cX2_loseOldest 26 = .ok (.istore_n 2, 1) := by decide +kernel
theorem dX2_loseOldest_27 : decode cX2_loseOldest 27 = .ok (.iload_n 2, 1) := by decide +kernel
theorem dX2_loseOldest_28 : decode cX2_loseOldest 28 = .ok (.aload_n 0, 1) := by decide +kernel
theorem dX2_loseOldest_29 : decode cX2_loseOldest 29 = .ok (.getfield 9, 3) := by decide +kernel
theorem dX2_loseOldest_32 : decode cX2_loseOldest 32 = .ok (.arraylength, 1) := by decide +kernel
theorem dX2_loseOldest_33 : decode cX2_loseOldest 33 = .ok (.if_icmp .ge 23, 3) := by decide +kernel
theorem dX2_loseOldest_36 : decode cX2_loseOldest 36 = .ok (.aload_n 0, 1) := by decide +kernel
theorem dX2_loseOldest_37 : decode cX2_loseOldest 37 = .ok (.getfield 9, 3) := by decide +kernel
theorem dX2_loseOldest_40 : decode cX2_loseOldest 40 = .ok (.iload_n 2, 1) := by decide +kernel
theorem dX2_loseOldest_41 : decode cX2_loseOldest 41 = .ok (.iconst 1, 1) := by decide +kernel
theorem dX2_loseOldest_42 : decode cX2_loseOldest 42 = .ok (.isub, 1) := by decide +kernel
theorem dX2_loseOldest_43 : decode cX2_loseOldest 43 = .ok (.aload_n 0, 1) := by decide +kernel
theorem dX2_loseOldest_44 : decode cX2_loseOldest 44 = .ok (.getfield 9, 3) := by decide +kernel
theorem dX2_loseOldest_47 : decode cX2_loseOldest 47 = .ok (.iload_n 2, 1) := by decide +kernel
theorem dX2_loseOldest_48 : decode cX2_loseOldest 48 = .ok (.aaload, 1) := by decide +kernel
theorem dX2_loseOldest_49 : decode cX2_loseOldest 49 = .ok (.aastore, 1) := by decide +kernel
theorem dX2_loseOldest_50 : decode cX2_loseOldest 50 = .ok (.iinc 2 1, 3) := by decide +kernel
theorem dX2_loseOldest_53 : decode cX2_loseOldest 53 = .ok (.goto (-26), 3) := by decide +kernel
theorem dX2_loseOldest_56 : decode cX2_loseOldest 56 = .ok (.aload_n 0, 1) := by decide +kernel
theorem dX2_loseOldest_57 : decode cX2_loseOldest 57 = .ok (.getfield 9, 3) := by decide +kernel
theorem dX2_loseOldest_60 : decode cX2_loseOldest 60 = .ok (.aload_n 0, 1) := by decide +kernel
theorem dX2_loseOldest_61 : decode cX2_loseOldest 61 = .ok (.getfield 9, 3) := by decide +kernel
theorem dX2_loseOldest_64 : decode cX2_loseOldest 64 = .ok (.arraylength, 1) := by decide +kernel
theorem dX2_loseOldest_65 : decode cX2_loseOldest 65 = .ok (.iconst 1, 1) := by decide +kernel
theorem dX2_loseOldest_66 : decode cX2_loseOldest 66 = .ok (.isub, 1) := by decide +kernel
theorem dX2_loseOldest_67 : decode cX2_loseOldest 67 = .ok (.aload_n 1, 1) := by decide +kernel
theorem dX2_loseOldest_68 : decode cX2_loseOldest 68 = .ok (.aastore, 1) := by decide +kernel
theorem dX2_loseOldest_69 : decode cX2_loseOldest 69 = .ok (.aload_n 0, 1) := by decide +kernel
theorem dX2_loseOldest_70 : decode cX2_loseOldest 70 = .ok (.dup, 1) := by decide +kernel
theorem dX2_loseOldest_71 : decode cX2_loseOldest 71 = .ok (.getfield 16, 3) := by decide +kernel
theorem dX2_loseOldest_74 : decode cX2_loseOldest 74 = .ok (.iconst 1, 1) := by decide +kernel
theorem dX2_loseOldest_75 : decode cX2_loseOldest 75 = .ok (.isub, 1) := by decide +kernel
theorem dX2_loseOldest_76 : decode cX2_loseOldest 76 = .ok (.putfield 16, 3) := by decide +kernel
theorem dX2_loseOldest_79 : decode cX2_loseOldest 79 = .ok (.return_, 1) := by decide +kernel
theorem dX3_init_0 : decode cX3_init 0 = .ok (.aload_n 0, 1) := by decide +kernel
theorem dX3_init_1 : decode cX3_init 1 = .ok (.invokespecial 3, 3) := by decide +kernel
theorem dX3_init_4 : decode cX3_init 4 = .ok (.aload_n 0, 1) := by decide +kernel
theorem dX3_init_5 : decode cX3_init 5 = .ok (.bipush 6, 2) := by decide +kernel
theorem dX3_init_7 : decode cX3_init 7 = .ok (.newarray .int, 2) := by decide +kernel
theorem dX3_init_9 : decode cX3_init 9 = .ok (.putfield 9, 3) := by decide +kernel
theorem dX3_init_12 : decode cX3_init 12 = .ok (.aload_n 0, 1) := by decide +kernel
theorem dX3_init_13 : decode cX3_init 13 = .ok (.bipush 6, 2) := by decide +kernel
theorem dX3_init_15 : decode cX3_init 15 = .ok (.newarray .int, 2) := by decide +kernel
theorem dX3_init_17 : decode cX3_init 17 = .ok (.putfield 15, 3) := by decide +kernel
theorem dX3_init_20 : decode cX3_init 20 = .ok (.return_, 1) := by decide +kernel
theorem dX3_clear_0 : decode cX3_clear 0 = .ok (.aload_n 0, 1) := by decide +kernel
theorem dX3_clear_1 : decode cX3_clear 1 = .ok (.iconst 0, 1) := by decide +kernel
theorem dX3_clear_2 : decode cX3_clear 2 = .ok (.putfield 18, 3) := by decide +kernel
theorem dX3_clear_5 : decode cX3_clear 5 = .ok (.return_, 1) := by decide +kernel
set_option maxRecDepth 20000 in
theorem ggX3_add_X5_put : GoodIn wsX3_add wsX5_put := goodIn_r _ [6] (by decide +kernel) (by decide +kernel)
set_option maxRecDepth 20000 in
theorem gX3_add_X5_put_n22 : GoodIn wsX3_add (wsX5_put) := ggX3_add_X5_put
theorem dX3_add_0 : decode cX3_add 0 = .ok (.aload_n 0, 1) := by decide +kernel
theorem dX3_add_1 : decode cX3_add 1 = .ok (.getfield 9, 3) := by decide +kernel
theorem dX3_add_4 : decode cX3_add 4 = .ok (.aload_n 0, 1) := by decide +kernel
theorem dX3_add_5 : decode cX3_add 5 = .ok (.getfield 18, 3) := by decide +kernel
theorem dX3_add_8 : decode cX3_add 8 = .ok (.iload_n 1, 1) := by decide +kernel
theorem dX3_add_9 : decode cX3_add 9 = .ok (.invokestatic 22, 3) := by decide +kernel
theorem dX3_add_12 : decode cX3_add 12 = .ok (.aload_n 0, 1) := by decide +kernel
theorem dX3_add_13 : decode cX3_add 13 = .ok (.getfield 15, 3) := by decide +kernel
theorem dX3_add_16 : decode cX3_add 16 = .ok (.aload_n 0, 1) := by decide +kernel
theorem dX3_add_17 : decode cX3_add 17 = .ok (.getfield 18, 3) := by decide +kernel
theorem dX3_add_20 : decode cX3_add 20 = .ok (.iload_n 2, 1) := by decide +kernel
theorem dX3_add_21 : decode cX3_add 21 = .ok (.invokestatic 22, 3) := by decide +kernel
theorem dX3_add_24 : decode cX3_add 24 = .ok (.aload_n 0, 1) := by decide +kernel
theorem dX3_add_25 : decode cX3_add 25 = .ok (.dup, 1) := by decide +kernel
theorem dX3_add_26 : decode cX3_add 26 = .ok (.getfield 18, 3) := by decide +kernel
theorem dX3_add_29 : decode cX3_add 29 = .ok (.iconst 1, 1) := by decide +kernel
theorem dX3_add_30 : decode cX3_add 30 = .ok (.iadd, 1) := by decide +kernel
theorem dX3_add_31 : decode cX3_add 31 = .ok (.putfield 18, 3) := by decide +kernel
theorem dX3_add_34 : decode cX3_add 34 = .ok (.return_, 1) := by decide +kernel
set_option maxRecDepth 20000 in
theorem ggX3_wouldBeSo_X5_of : GoodIn wsX3_wouldBeSo wsX5_of := goodIn_r _ [3] (by decide +kernel) (by decide +kernel)
set_option maxRecDepth 20000 in
theorem gX3_wouldBeSo_X5_of_n31 : GoodIn wsX3_wouldBeSo (wsX5_of) := ggX3_wouldBeSo_X5_of
set_option maxRecDepth 20000 in
theorem ggX3_wouldBeSo_X3_agrees : GoodIn wsX3_wouldBeSo wsX3_agrees := goodIn_r _ [8, 9, 10, 11, 1, 2, 3, 85, 86, 87] (by decide +kernel) (by decide +kernel)
set_option maxRecDepth 20000 in
theorem gX3_wouldBeSo_X3_agrees : GoodIn wsX3_wouldBeSo (wsV RX3 35 RX3 yX3_agrees wsX3_agrees) := goodIn_app (goodIn_of _ (by decide +kernel)) ggX3_wouldBeSo_X3_agrees
set_option maxRecDepth 20000 in
theorem ggX3_wouldBeSo_X0_liveFor : GoodIn wsX3_wouldBeSo wsX0_liveFor := goodIn_r _ [16, 17, 18, 19, 15, 20, 21, 1, 2, 3, 22, 23, 24, 25, 26, 27, 28, 29, 30, 31, 32, 33, 34, 35, 36, 37, 38, 39, 40, 41, 42, 43, 44, 45, 46, 47, 48, 49, 50, 51, 52, 53, 54, 55, 56, 57, 58, 59, 60, 61, 62, 63, 64, 65, 66, 67, 68, 69, 70, 71, 72, 73, 74, 75, 76, 77, 78, 79, 80, 81, 82, 83, 84] (by decide +kernel) (by decide +kernel)
set_option maxRecDepth 20000 in
theorem gX3_wouldBeSo_X0_liveFor : GoodIn wsX3_wouldBeSo (wsV RX3 39 RX0 yX0_liveFor wsX0_liveFor) := goodIn_app (goodIn_of _ (by decide +kernel)) ggX3_wouldBeSo_X0_liveFor
theorem dX3_wouldBeSo_0 : decode cX3_wouldBeSo 0 = .ok (.iconst 0, 1) := by decide +kernel
theorem dX3_wouldBeSo_1 : decode cX3_wouldBeSo 1 = .ok (.istore_n 3, 1) := by decide +kernel
theorem dX3_wouldBeSo_2 : decode cX3_wouldBeSo 2 = .ok (.iload_n 3, 1) := by decide +kernel
theorem dX3_wouldBeSo_3 : decode cX3_wouldBeSo 3 = .ok (.bipush 20, 2) := by decide +kernel
theorem dX3_wouldBeSo_5 : decode cX3_wouldBeSo 5 = .ok (.if_icmp .gt 33, 3) := by decide +kernel
theorem dX3_wouldBeSo_8 : decode cX3_wouldBeSo 8 = .ok (.aload_n 0, 1) := by decide +kernel
theorem dX3_wouldBeSo_9 : decode cX3_wouldBeSo 9 = .ok (.iload_n 3, 1) := by decide +kernel
theorem dX3_wouldBeSo_10 : decode cX3_wouldBeSo 10 = .ok (.aload_n 1, 1) := by decide +kernel
theorem dX3_wouldBeSo_11 : decode cX3_wouldBeSo 11 = .ok (.getfield 26, 3) := by decide +kernel
theorem dX3_wouldBeSo_14 : decode cX3_wouldBeSo 14 = .ok (.iload_n 2, 1) := by decide +kernel
theorem dX3_wouldBeSo_15 : decode cX3_wouldBeSo 15 = .ok (.invokestatic 31, 3) := by decide +kernel
theorem dX3_wouldBeSo_18 : decode cX3_wouldBeSo 18 = .ok (.invokevirtual 35, 3) := by decide +kernel
theorem dX3_wouldBeSo_21 : decode cX3_wouldBeSo 21 = .ok (.ifCond .ne 5, 3) := by decide +kernel
theorem dX3_wouldBeSo_24 : decode cX3_wouldBeSo 24 = .ok (.iconst 0, 1) := by decide +kernel
theorem dX3_wouldBeSo_25 : decode cX3_wouldBeSo 25 = .ok (.ireturn, 1) := by decide +kernel
theorem dX3_wouldBeSo_26 : decode cX3_wouldBeSo 26 = .ok (.aload_n 1, 1) := by decide +kernel
theorem dX3_wouldBeSo_27 : decode cX3_wouldBeSo 27 = .ok (.iload_n 2, 1) := by decide +kernel
theorem dX3_wouldBeSo_28 : decode cX3_wouldBeSo 28 = .ok (.iconst 1, 1) := by decide +kernel
theorem dX3_wouldBeSo_29 : decode cX3_wouldBeSo 29 = .ok (.invokevirtual 39, 3) := by decide +kernel
theorem dX3_wouldBeSo_32 : decode cX3_wouldBeSo 32 = .ok (.iinc 3 1, 3) := by decide +kernel
theorem dX3_wouldBeSo_35 : decode cX3_wouldBeSo 35 = .ok (.goto (-33), 3) := by decide +kernel
theorem dX3_wouldBeSo_38 : decode cX3_wouldBeSo 38 = .ok (.iconst 1, 1) := by decide +kernel
theorem dX3_wouldBeSo_39 : decode cX3_wouldBeSo 39 = .ok (.ireturn, 1) := by decide +kernel
set_option maxRecDepth 20000 in
theorem ggX3_agrees_X5_of : GoodIn wsX3_agrees wsX5_of := goodIn_r _ [6] (by decide +kernel) (by decide +kernel)
set_option maxRecDepth 20000 in
theorem gX3_agrees_X5_of_n31 : GoodIn wsX3_agrees (wsX5_of) := ggX3_agrees_X5_of
theorem dX3_agrees_0 : decode cX3_agrees 0 = .ok (.iconst 0, 1) := by decide +kernel
theorem dX3_agrees_1 : decode cX3_agrees 1 = .ok (.istore_n 3, 1) := by decide +kernel
theorem dX3_agrees_2 : decode cX3_agrees 2 = .ok (.iload_n 3, 1) := by decide +kernel
theorem dX3_agrees_3 : decode cX3_agrees 3 = .ok (.aload_n 0, 1) := by decide +kernel
theorem dX3_agrees_4 : decode cX3_agrees 4 = .ok (.getfield 18, 3) := by decide +kernel
theorem dX3_agrees_7 : decode cX3_agrees 7 = .ok (.if_icmp .ge 35, 3) := by decide +kernel
theorem dX3_agrees_10 : decode cX3_agrees 10 = .ok (.aload_n 0, 1) := by decide +kernel
theorem dX3_agrees_11 : decode cX3_agrees 11 = .ok (.getfield 15, 3) := by decide +kernel
theorem dX3_agrees_14 : decode cX3_agrees 14 = .ok (.iload_n 3, 1) := by decide +kernel
theorem dX3_agrees_15 : decode cX3_agrees 15 = .ok (.invokestatic 31, 3) := by decide +kernel
theorem dX3_agrees_18 : decode cX3_agrees 18 = .ok (.iload_n 1, 1) := by decide +kernel
theorem dX3_agrees_19 : decode cX3_agrees 19 = .ok (.if_icmp .ne 17, 3) := by decide +kernel
theorem dX3_agrees_22 : decode cX3_agrees 22 = .ok (.aload_n 0, 1) := by decide +kernel
theorem dX3_agrees_23 : decode cX3_agrees 23 = .ok (.getfield 9, 3) := by decide +kernel
theorem dX3_agrees_26 : decode cX3_agrees 26 = .ok (.iload_n 3, 1) := by decide +kernel
theorem dX3_agrees_27 : decode cX3_agrees 27 = .ok (.invokestatic 31, 3) := by decide +kernel
theorem dX3_agrees_30 : decode cX3_agrees 30 = .ok (.iload_n 2, 1) := by decide +kernel
theorem dX3_agrees_31 : decode cX3_agrees 31 = .ok (.if_icmp .eq 5, 3) := by decide +kernel
theorem dX3_agrees_34 : decode cX3_agrees 34 = .ok (.iconst 0, 1) := by decide +kernel
theorem dX3_agrees_35 : decode cX3_agrees 35 = .ok (.ireturn, 1) := by decide +kernel
theorem dX3_agrees_36 : decode cX3_agrees 36 = .ok (.iinc 3 1, 3) := by decide +kernel
theorem dX3_agrees_39 : decode cX3_agrees 39 = .ok (.goto (-37), 3) := by decide +kernel
theorem dX3_agrees_42 : decode cX3_agrees 42 = .ok (.iconst 1, 1) := by decide +kernel
theorem dX3_agrees_43 : decode cX3_agrees 43 = .ok (.ireturn, 1) := by decide +kernel
theorem dX4_init_0 : decode cX4_init 0 = .ok (.aload_n 0, 1) := by decide +kernel
theorem dX4_init_1 : decode cX4_init 1 = .ok (.invokespecial 3, 3) := by decide +kernel
theorem dX4_init_4 : decode cX4_init 4 = .ok (.aload_n 0, 1) := by decide +kernel
theorem dX4_init_5 : decode cX4_init 5 = .ok (.sipush 200, 3) := by decide +kernel
theorem dX4_init_8 : decode cX4_init 8 = .ok (.newarray .char, 2) := by decide +kernel
theorem dX4_init_10 : decode cX4_init 10 = .ok (.putfield 9, 3) := by decide +kernel
theorem dX4_init_13 : decode cX4_init 13 = .ok (.return_, 1) := by decide +kernel
theorem dX4_append_0 : decode cX4_append 0 = .ok (.aload_n 0, 1) := by decide +kernel
theorem dX4_append_1 : decode cX4_append 1 = .ok (.getfield 15, 3) := by decide +kernel
theorem dX4_append_4 : decode cX4_append 4 = .ok (.ifCond .lt 35, 3) := by decide +kernel
theorem dX4_append_7 : decode cX4_append 7 = .ok (.aload_n 0, 1) := by decide +kernel
theorem dX4_append_8 : decode cX4_append 8 = .ok (.getfield 15, 3) := by decide +kernel
theorem dX4_append_11 : decode cX4_append 11 = .ok (.aload_n 0, 1) := by decide +kernel
theorem dX4_append_12 : decode cX4_append 12 = .ok (.getfield 9, 3) := by decide +kernel
theorem dX4_append_15 : decode cX4_append 15 = .ok (.arraylength, 1) := by decide +kernel
theorem dX4_append_16 : decode cX4_append 16 = .ok (.if_icmp .ge 23, 3) := by decide +kernel
theorem dX4_append_19 : decode cX4_append 19 = .ok (.aload_n 0, 1) := by decide +kernel
theorem dX4_append_20 : decode cX4_append 20 = .ok (.getfield 9, 3) := by decide +kernel
theorem dX4_append_23 : decode cX4_append 23 = .ok (.aload_n 0, 1) := by decide +kernel
theorem dX4_append_24 : decode cX4_append 24 = .ok (.getfield 15, 3) := by decide +kernel
theorem dX4_append_27 : decode cX4_append 27 = .ok (.iload_n 1, 1) := by decide +kernel
theorem dX4_append_28 : decode cX4_append 28 = .ok (.castore, 1) := by decide +kernel
theorem dX4_append_29 : decode cX4_append 29 = .ok (.aload_n 0, 1) := by decide +kernel
theorem dX4_append_30 : decode cX4_append 30 = .ok (.dup, 1) := by decide +kernel
theorem dX4_append_31 : decode cX4_append 31 = .ok (.getfield 15, 3) := by decide +kernel
theorem dX4_append_34 : decode cX4_append 34 = .ok (.iconst 1, 1) := by decide +kernel
theorem dX4_append_35 : decode cX4_append 35 = .ok (.iadd, 1) := by decide +kernel
theorem dX4_append_36 : decode cX4_append 36 = .ok (.putfield 15, 3) := by decide +kernel
theorem dX4_append_39 : decode cX4_append 39 = .ok (.return_, 1) := by decide +kernel
theorem dX4_clear_0 : decode cX4_clear 0 = .ok (.aload_n 0, 1) := by decide +kernel
theorem dX4_clear_1 : decode cX4_clear 1 = .ok (.iconst 0, 1) := by decide +kernel
theorem dX4_clear_2 : decode cX4_clear 2 = .ok (.putfield 15, 3) := by decide +kernel
theorem dX4_clear_5 : decode cX4_clear 5 = .ok (.return_, 1) := by decide +kernel
set_option maxRecDepth 20000 in
theorem ggX4_readInto_X0_clear : GoodIn wsX4_readInto wsX0_clear := goodIn_r _ [7, 8, 9, 10, 11, 77, 78, 79, 80, 81, 82, 83, 84, 85] (by decide +kernel) (by decide +kernel)
set_option maxRecDepth 20000 in
theorem gX4_readInto_X0_clear : GoodIn wsX4_readInto (wsV RX4 19 RX0 yX0_clear wsX0_clear) := goodIn_app (goodIn_of _ (by decide +kernel)) ggX4_readInto_X0_clear
set_option maxRecDepth 20000 in
theorem ggX4_readInto_X4_readItem : GoodIn wsX4_readInto wsX4_readItem := goodIn_r _ [16, 17, 18, 19, 15, 20, 1, 21, 22, 23, 24, 2, 25, 26, 27, 28, 29, 30, 31, 32, 33, 34, 35, 36, 37, 38, 39, 40, 41, 42, 43, 6, 44, 9, 45, 46, 47, 48, 49, 50, 51, 52, 53, 54, 55, 56, 57, 58, 10, 59, 60, 61, 62, 63, 64, 65, 66, 67, 8, 74, 75, 76, 77, 78, 79, 80, 81, 82, 83, 84, 85] (by decide +kernel) (by decide +kernel)
set_option maxRecDepth 20000 in
theorem gX4_readInto_X4_readItem : GoodIn wsX4_readInto (wsV RX4 27 RX4 yX4_readItem wsX4_readItem) := goodIn_app (goodIn_of _ (by decide +kernel)) ggX4_readInto_X4_readItem
set_option maxRecDepth 20000 in
theorem ggX4_readInto_X0_settleHeeds : GoodIn wsX4_readInto wsX0_settleHeeds := goodIn_r _ [71, 9, 46, 72, 39, 73, 60, 61, 62, 6, 63, 49, 50, 77, 78, 79, 80, 81, 82, 83, 84, 85] (by decide +kernel) (by decide +kernel)
set_option maxRecDepth 20000 in
theorem gX4_readInto_X0_settleHeeds : GoodIn wsX4_readInto (wsV RX4 31 RX0 yX0_settleHeeds wsX0_settleHeeds) := goodIn_app (goodIn_of _ (by decide +kernel)) ggX4_readInto_X0_settleHeeds
theorem dX4_readInto_0 : decode cX4_readInto 0 = .ok (.aload_n 1, 1) := by decide +kernel
theorem dX4_readInto_1 : decode cX4_readInto 1 = .ok (.invokevirtual 19, 3) := by decide +kernel
theorem dX4_readInto_4 : decode cX4_readInto 4 = .ok (.aload_n 0, 1) := by decide +kernel
theorem dX4_readInto_5 : decode cX4_readInto 5 = .ok (.iconst 0, 1) := by decide +kernel
theorem dX4_readInto_6 : decode cX4_readInto 6 = .ok (.putfield 24, 3) := by decide +kernel
theorem dX4_readInto_9 : decode cX4_readInto 9 = .ok (.iconst 0, 1) := by decide +kernel
theorem dX4_readInto_10 : decode cX4_readInto 10 = .ok (.istore_n 2, 1) := by decide +kernel
theorem dX4_readInto_11 : decode cX4_readInto 11 = .ok (.iload_n 2, 1) := by decide +kernel
theorem dX4_readInto_12 : decode cX4_readInto 12 = .ok (.sipush 200, 3) := by decide +kernel
theorem dX4_readInto_15 : decode cX4_readInto 15 = .ok (.if_icmp .ge 35, 3) := by decide +kernel
theorem dX4_readInto_18 : decode cX4_readInto 18 = .ok (.aload_n 0, 1) := by decide +kernel
theorem dX4_readInto_19 : decode cX4_readInto 19 = .ok (.getfield 24, 3) := by decide +kernel
theorem dX4_readInto_22 : decode cX4_readInto 22 = .ok (.aload_n 0, 1) := by decide +kernel
theorem dX4_readInto_23 : decode cX4_readInto 23 = .ok (.getfield 15, 3) := by decide +kernel
theorem dX4_readInto_26 : decode cX4_readInto 26 = .ok (.if_icmp .ge 24, 3) := by decide +kernel
theorem dX4_readInto_29 : decode cX4_readInto 29 = .ok (.aload_n 0, 1) := by decide +kernel
theorem dX4_readInto_30 : decode cX4_readInto 30 = .ok (.getfield 24, 3) := by decide +kernel
theorem dX4_readInto_33 : decode cX4_readInto 33 = .ok (.istore_n 3, 1) := by decide +kernel
theorem dX4_readInto_34 : decode cX4_readInto 34 = .ok (.aload_n 0, 1) := by decide +kernel
theorem dX4_readInto_35 : decode cX4_readInto 35 = .ok (.aload_n 1, 1) := by decide +kernel
theorem dX4_readInto_36 : decode cX4_readInto 36 = .ok (.invokevirtual 27, 3) := by decide +kernel
theorem dX4_readInto_39 : decode cX4_readInto 39 = .ok (.ifCond .ne 5, 3) := by decide +kernel
theorem dX4_readInto_42 : decode cX4_readInto 42 = .ok (.iload_n 3, 1) := by decide +kernel
theorem dX4_readInto_43 : decode cX4_readInto 43 = .ok (.ireturn, 1) := by decide +kernel
theorem dX4_readInto_44 : decode cX4_readInto 44 = .ok (.iinc 2 1, 3) := by decide +kernel
theorem dX4_readInto_47 : decode cX4_readInto 47 = .ok (.goto (-36), 3) := by decide +kernel
theorem dX4_readInto_50 : decode cX4_readInto 50 = .ok (.aload_n 1, 1) := by decide +kernel
theorem dX4_readInto_51 : decode cX4_readInto 51 = .ok (.invokevirtual 31, 3) := by decide +kernel
theorem dX4_readInto_54 : decode cX4_readInto 54 = .ok (.bipush (-4), 2) := by decide +kernel
theorem dX4_readInto_56 : decode cX4_readInto 56 = .ok (.ireturn, 1) := by decide +kernel
set_option maxRecDepth 20000 in
theorem ggX4_readItem_X4_takes : GoodIn wsX4_readItem wsX4_takes := goodIn_r _ [5, 6, 7, 8, 9, 4, 10, 11, 12, 59, 60, 61] (by decide +kernel) (by decide +kernel)
set_option maxRecDepth 20000 in
theorem gX4_readItem_X4_takes : GoodIn wsX4_readItem (wsV RX4 34 RX4 yX4_takes wsX4_takes) := goodIn_app (goodIn_of _ (by decide +kernel)) ggX4_readItem_X4_takes
set_option maxRecDepth 20000 in
theorem ggX4_readItem_X4_readCourtier : GoodIn wsX4_readItem wsX4_readCourtier := goodIn_r _ [16, 17, 18, 19, 4, 20, 21, 22, 23, 24, 6, 7, 8, 9, 10, 11, 12, 25, 26, 27, 1, 2, 3, 5, 28, 29, 30, 31, 32, 33, 34, 35, 36, 37, 38, 39, 59, 60, 61, 62, 63, 64, 65, 66, 67, 68, 69, 70] (by decide +kernel) (by decide +kernel)
set_option maxRecDepth 20000 in
theorem gX4_readItem_X4_readCourtier : GoodIn wsX4_readItem (wsV RX4 38 RX4 yX4_readCourtier wsX4_readCourtier) := goodIn_app (goodIn_of _ (by decide +kernel)) ggX4_readItem_X4_readCourtier
set_option maxRecDepth 20000 in
theorem ggX4_readItem_X4_readNews : GoodIn wsX4_readItem wsX4_readNews := goodIn_r _ [43, 17, 18, 19, 4, 20, 21, 22, 23, 24, 6, 7, 8, 9, 10, 11, 12, 1, 2, 3, 5, 44, 45, 46, 31, 47, 48, 49, 50, 51, 52, 53, 33, 38, 26, 39, 54, 55, 56, 57, 58, 62, 63, 64, 65, 66, 67, 68, 69, 70, 59, 60, 61] (by decide +kernel) (by decide +kernel)
set_option maxRecDepth 20000 in
theorem gX4_readItem_X4_readNews : GoodIn wsX4_readItem (wsV RX4 41 RX4 yX4_readNews wsX4_readNews) := goodIn_app (goodIn_of _ (by decide +kernel)) ggX4_readItem_X4_readNews
theorem dX4_readItem_0 : decode cX4_readItem 0 = .ok (.aload_n 0, 1) := by decide +kernel
theorem dX4_readItem_1 : decode cX4_readItem 1 = .ok (.bipush 99, 2) := by decide +kernel
theorem dX4_readItem_3 : decode cX4_readItem 3 = .ok (.invokevirtual 34, 3) := by decide +kernel
theorem dX4_readItem_6 : decode cX4_readItem 6 = .ok (.ifCond .eq 9, 3) := by decide +kernel
theorem dX4_readItem_9 : decode cX4_readItem 9 = .ok (.aload_n 0, 1) := by decide +kernel
theorem dX4_readItem_10 : decode cX4_readItem 10 = .ok (.aload_n 1, 1) := by decide +kernel
theorem dX4_readItem_11 : decode cX4_readItem 11 = .ok (.invokevirtual 38, 3) := by decide +kernel
theorem dX4_readItem_14 : decode cX4_readItem 14 = .ok (.ireturn, 1) := by decide +kernel
theorem dX4_readItem_15 : decode cX4_readItem 15 = .ok (.aload_n 0, 1) := by decide +kernel
theorem dX4_readItem_16 : decode cX4_readItem 16 = .ok (.bipush 110, 2) := by decide +kernel
theorem dX4_readItem_18 : decode cX4_readItem 18 = .ok (.invokevirtual 34, 3) := by decide +kernel
theorem dX4_readItem_21 : decode cX4_readItem 21 = .ok (.ifCond .eq 15, 3) := by decide +kernel
theorem dX4_readItem_24 : decode cX4_readItem 24 = .ok (.aload_n 0, 1) := by decide +kernel
theorem dX4_readItem_25 : decode cX4_readItem 25 = .ok (.aload_n 1, 1) := by decide +kernel
theorem dX4_readItem_26 : decode cX4_readItem 26 = .ok (.invokevirtual 41, 3) := by decide +kernel
theorem dX4_readItem_29 : decode cX4_readItem 29 = .ok (.ifCond .eq 7, 3) := by decide +kernel
theorem dX4_readItem_32 : decode cX4_readItem 32 = .ok (.iconst 1, 1) := by decide +kernel
theorem dX4_readItem_33 : decode cX4_readItem 33 = .ok (.goto 4, 3) := by decide +kernel
theorem dX4_readItem_36 : decode cX4_readItem 36 = .ok (.iconst 0, 1) := by decide +kernel
theorem dX4_readItem_37 : decode cX4_readItem 37 = .ok (.ireturn, 1) := by decide +kernel
set_option maxRecDepth 20000 in
theorem ggX4_readCourtier_X4_number : GoodIn wsX4_readCourtier wsX4_number := goodIn_r _ [5, 6, 7, 8, 4, 9, 10, 11, 12, 13, 14, 15, 16, 36, 37, 38] (by decide +kernel) (by decide +kernel)
set_option maxRecDepth 20000 in
theorem gX4_readCourtier_X4_number : GoodIn wsX4_readCourtier (wsV RX4 44 RX4 yX4_number wsX4_number) := goodIn_app (goodIn_of _ (by decide +kernel)) ggX4_readCourtier_X4_number
set_option maxRecDepth 20000 in
theorem ggX4_readCourtier_X5_isIn : GoodIn wsX4_readCourtier wsX5_isIn := goodIn_r _ [19] (by decide +kernel) (by decide +kernel)
set_option maxRecDepth 20000 in
theorem gX4_readCourtier_X5_isIn_n48 : GoodIn wsX4_readCourtier (wsX5_isIn) := ggX4_readCourtier_X5_isIn
set_option maxRecDepth 20000 in
theorem ggX4_readCourtier_X4_takes : GoodIn wsX4_readCourtier wsX4_takes := goodIn_r _ [23, 10, 11, 12, 13, 4, 14, 15, 16, 36, 37, 38] (by decide +kernel) (by decide +kernel)
set_option maxRecDepth 20000 in
theorem gX4_readCourtier_X4_takes : GoodIn wsX4_readCourtier (wsV RX4 34 RX4 yX4_takes wsX4_takes) := goodIn_app (goodIn_of _ (by decide +kernel)) ggX4_readCourtier_X4_takes
set_option maxRecDepth 20000 in
theorem ggX4_readCourtier_X0_addCourtier : GoodIn wsX4_readCourtier wsX0_addCourtier := goodIn_r _ [28, 29, 30, 31, 32, 33, 34, 18, 35, 39, 40, 41, 42, 43, 44, 45, 46, 47] (by decide +kernel) (by decide +kernel)
set_option maxRecDepth 20000 in
theorem gX4_readCourtier_X0_addCourtier : GoodIn wsX4_readCourtier (wsV RX4 52 RX0 yX0_addCourtier wsX0_addCourtier) := goodIn_app (goodIn_of _ (by decide +kernel)) ggX4_readCourtier_X0_addCourtier
theorem dX4_readCourtier_0 : decode cX4_readCourtier 0 = .ok (.aload_n 0, 1) := by decide +kernel
theorem dX4_readCourtier_1 : decode cX4_readCourtier 1 = .ok (.invokevirtual 44, 3) := by decide +kernel
theorem dX4_readCourtier_4 : decode cX4_readCourtier 4 = .ok (.istore_n 2, 1) := by decide +kernel
theorem dX4_readCourtier_5 : decode cX4_readCourtier 5 = .ok (.iload_n 2, 1) := by decide +kernel
theorem dX4_readCourtier_6 : decode cX4_readCourtier 6 = .ok (.iconst 0, 1) := by decide +kernel
theorem dX4_readCourtier_7 : decode cX4_readCourtier 7 = .ok (.iconst 3, 1) := by decide +kernel
theorem dX4_readCourtier_8 : decode cX4_readCourtier 8 = .ok (.invokestatic 48, 3) := by decide +kernel
theorem dX4_readCourtier_11 : decode cX4_readCourtier 11 = .ok (.ifCond .eq 12, 3) := by decide +kernel
theorem dX4_readCourtier_14 : decode cX4_readCourtier 14 = .ok (.aload_n 0, 1) := by decide +kernel
theorem dX4_readCourtier_15 : decode cX4_readCourtier 15 = .ok (.bipush 44, 2) := by decide +kernel
theorem dX4_readCourtier_17 : decode cX4_readCourtier 17 = .ok (.invokevirtual 34, 3) := by decide +kernel
theorem dX4_readCourtier_20 : decode cX4_readCourtier 20 = .ok (.ifCond .ne 5, 3) := by decide +kernel
theorem dX4_readCourtier_23 : decode cX4_readCourtier 23 = .ok (.iconst 0, 1) := by decide +kernel
theorem dX4_readCourtier_24 : decode cX4_readCourtier 24 = .ok (.ireturn, 1) := by decide +kernel
theorem dX4_readCourtier_25 : decode cX4_readCourtier 25 = .ok (.aload_n 0, 1) := by decide +kernel
theorem dX4_readCourtier_26 : decode cX4_readCourtier 26 = .ok (.invokevirtual 44, 3) := by decide +kernel
theorem dX4_readCourtier_29 : decode cX4_readCourtier 29 = .ok (.istore_n 3, 1) := by decide +kernel
theorem dX4_readCourtier_30 : decode cX4_readCourtier 30 = .ok (.iload_n 3, 1) := by decide +kernel
theorem dX4_readCourtier_31 : decode cX4_readCourtier 31 = .ok (.iconst 0, 1) := by decide +kernel
theorem dX4_readCourtier_32 : decode cX4_readCourtier 32 = .ok (.bipush 6, 2) := by decide +kernel
theorem dX4_readCourtier_34 : decode cX4_readCourtier 34 = .ok (.invokestatic 48, 3) := by decide +kernel
theorem dX4_readCourtier_37 : decode cX4_readCourtier 37 = .ok (.ifCond .ne 9, 3) := by decide +kernel
theorem dX4_readCourtier_40 : decode cX4_readCourtier 40 = .ok (.iload_n 3, 1) := by decide +kernel
theorem dX4_readCourtier_41 : decode cX4_readCourtier 41 = .ok (.bipush 9, 2) := by decide +kernel
theorem dX4_readCourtier_43 : decode cX4_readCourtier 43 = .ok (.if_icmp .ne 7, 3) := by decide +kernel
theorem dX4_readCourtier_46 : decode cX4_readCourtier 46 = .ok (.iconst 1, 1) := by decide +kernel
theorem dX4_readCourtier_47 : decode cX4_readCourtier 47 = .ok (.goto 4, 3) := by decide +kernel
theorem dX4_readCourtier_50 : decode cX4_readCourtier 50 = .ok (.iconst 0, 1) := by decide +kernel
theorem dX4_readCourtier_51 : decode cX4_readCourtier 51 = .ok (.istore 4, 2) := by decide +kernel
theorem dX4_readCourtier_53 : decode cX4_readCourtier 53 = .ok (.iload 4, 2) := by decide +kernel
theorem dX4_readCourtier_55 : decode cX4_readCourtier 55 = .ok (.ifCond .eq 25, 3) := by decide +kernel
theorem dX4_readCourtier_58 : decode cX4_readCourtier 58 = .ok (.aload_n 0, 1) := by decide +kernel
theorem dX4_readCourtier_59 : decode cX4_readCourtier 59 = .ok (.bipush 59, 2) := by decide +kernel
theorem dX4_readCourtier_61 : decode cX4_readCourtier 61 = .ok (.invokevirtual 34, 3) := by decide +kernel
theorem dX4_readCourtier_64 : decode cX4_readCourtier 64 = .ok (.ifCond .eq 16, 3) := by decide +kernel
theorem dX4_readCourtier_67 : decode cX4_readCourtier 67 = .ok (.aload_n 1, 1) := by decide +kernel
theorem dX4_readCourtier_68 : decode cX4_readCourtier 68 = .ok (.iload_n 2, 1) := by decide +kernel
theorem dX4_readCourtier_69 : decode cX4_readCourtier 69 = .ok (.iload_n 3, 1) := by decide +kernel
theorem dX4_readCourtier_70 : decode cX4_readCourtier 70 = .ok (.invokevirtual 52, 3) := by decide +kernel
theorem dX4_readCourtier_73 : decode cX4_readCourtier 73 = .ok (.ifCond .eq 7, 3) := by decide +kernel
theorem dX4_readCourtier_76 : decode cX4_readCourtier 76 = .ok (.iconst 1, 1) := by decide +kernel
theorem dX4_readCourtier_77 : decode cX4_readCourtier 77 = .ok (.goto 4, 3) := by decide +kernel
theorem dX4_readCourtier_80 : decode cX4_readCourtier 80 = .ok (.iconst 0, 1) := by decide +kernel
theorem dX4_readCourtier_81 : decode cX4_readCourtier 81 = .ok (.ireturn, 1) := by decide +kernel
set_option maxRecDepth 20000 in
theorem ggX4_readNews_X4_number : GoodIn wsX4_readNews wsX4_number := goodIn_r _ [5, 6, 7, 8, 4, 9, 10, 11, 12, 13, 14, 15, 16, 50, 51, 52] (by decide +kernel) (by decide +kernel)
set_option maxRecDepth 20000 in
theorem gX4_readNews_X4_number : GoodIn wsX4_readNews (wsV RX4 44 RX4 yX4_number wsX4_number) := goodIn_app (goodIn_of _ (by decide +kernel)) ggX4_readNews_X4_number
set_option maxRecDepth 20000 in
theorem ggX4_readNews_X4_takes : GoodIn wsX4_readNews wsX4_takes := goodIn_r _ [20, 10, 11, 12, 13, 4, 14, 15, 16, 50, 51, 52] (by decide +kernel) (by decide +kernel)
set_option maxRecDepth 20000 in
theorem gX4_readNews_X4_takes : GoodIn wsX4_readNews (wsV RX4 34 RX4 yX4_takes wsX4_takes) := goodIn_app (goodIn_of _ (by decide +kernel)) ggX4_readNews_X4_takes
set_option maxRecDepth 20000 in
theorem ggX4_readNews_X0_addNews : GoodIn wsX4_readNews wsX0_addNews := goodIn_r _ [25, 26, 27, 28, 29, 30, 24, 31, 32, 33, 34, 35, 41, 42, 43, 44, 45, 46, 47, 48, 49] (by decide +kernel) (by decide +kernel)
set_option maxRecDepth 20000 in
theorem gX4_readNews_X0_addNews : GoodIn wsX4_readNews (wsV RX4 59 RX0 yX0_addNews wsX0_addNews) := goodIn_app (goodIn_of _ (by decide +kernel)) ggX4_readNews_X0_addNews
set_option maxRecDepth 20000 in
theorem ggX4_readNews_X4_figure : GoodIn wsX4_readNews wsX4_figure := goodIn_r _ [9, 10, 11, 12, 13, 4, 14, 15, 16, 50, 51, 52] (by decide +kernel) (by decide +kernel)
set_option maxRecDepth 20000 in
theorem gX4_readNews_X4_figure : GoodIn wsX4_readNews (wsV RX4 66 RX4 yX4_figure wsX4_figure) := goodIn_app (goodIn_of _ (by decide +kernel)) ggX4_readNews_X4_figure
set_option maxRecDepth 20000 in
theorem ggX4_readNews_X0_setBelief : GoodIn wsX4_readNews wsX0_setBelief := goodIn_r _ [39, 40, 33, 34, 35, 41, 42, 43, 44, 45, 46, 47, 48, 49] (by decide +kernel) (by decide +kernel)
set_option maxRecDepth 20000 in
theorem gX4_readNews_X0_setBelief : GoodIn wsX4_readNews (wsV RX4 69 RX0 yX0_setBelief wsX0_setBelief) := goodIn_app (goodIn_of _ (by decide +kernel)) ggX4_readNews_X0_setBelief
theorem dX4_readNews_0 : decode cX4_readNews 0 = .ok (.aload_n 0, 1) := by decide +kernel
theorem dX4_readNews_1 : decode cX4_readNews 1 = .ok (.invokevirtual 44, 3) := by decide +kernel
theorem dX4_readNews_4 : decode cX4_readNews 4 = .ok (.istore_n 2, 1) := by decide +kernel
theorem dX4_readNews_5 : decode cX4_readNews 5 = .ok (.aload_n 1, 1) := by decide +kernel
theorem dX4_readNews_6 : decode cX4_readNews 6 = .ok (.getfield 56, 3) := by decide +kernel
theorem dX4_readNews_9 : decode cX4_readNews 9 = .ok (.istore_n 3, 1) := by decide +kernel
theorem dX4_readNews_10 : decode cX4_readNews 10 = .ok (.aload_n 0, 1) := by decide +kernel
theorem dX4_readNews_11 : decode cX4_readNews 11 = .ok (.bipush 44, 2) := by decide +kernel
theorem dX4_readNews_13 : decode cX4_readNews 13 = .ok (.invokevirtual 34, 3) := by decide +kernel
theorem dX4_readNews_16 : decode cX4_readNews 16 = .ok (.ifCond .eq 11, 3) := by decide +kernel
theorem dX4_readNews_19 : decode cX4_readNews 19 = .ok (.aload_n 1, 1) := by decide +kernel
theorem dX4_readNews_20 : decode cX4_readNews 20 = .ok (.iload_n 2, 1) := by decide +kernel
theorem dX4_readNews_21 : decode cX4_readNews 21 = .ok (.invokevirtual 59, 3) := by decide +kernel
theorem dX4_readNews_24 : decode cX4_readNews 24 = .ok (.ifCond .ne 5, 3) := by decide +kernel
theorem dX4_readNews_27 : decode cX4_readNews 27 = .ok (.iconst 0, 1) := by decide +kernel
theorem dX4_readNews_28 : decode cX4_readNews 28 = .ok (.ireturn, 1) := by decide +kernel
theorem dX4_readNews_29 : decode cX4_readNews 29 = .ok (.iconst 0, 1) := by decide +kernel
theorem dX4_readNews_30 : decode cX4_readNews 30 = .ok (.istore 4, 2) := by decide +kernel
theorem dX4_readNews_32 : decode cX4_readNews 32 = .ok (.iload 4, 2) := by decide +kernel
theorem dX4_readNews_34 : decode cX4_readNews 34 = .ok (.aload_n 1, 1) := by decide +kernel
theorem dX4_readNews_35 : decode cX4_readNews 35 = .ok (.getfield 63, 3) := by decide +kernel
theorem dX4_readNews_38 : decode cX4_readNews 38 = .ok (.if_icmp .ge 33, 3) := by decide +kernel
theorem dX4_readNews_41 : decode cX4_readNews 41 = .ok (.aload_n 0, 1) := by decide +kernel
theorem dX4_readNews_42 : decode cX4_readNews 42 = .ok (.invokevirtual 66, 3) := by decide +kernel
theorem dX4_readNews_45 : decode cX4_readNews 45 = .ok (.istore 5, 2) := by decide +kernel
theorem dX4_readNews_47 : decode cX4_readNews 47 = .ok (.iload 5, 2) := by decide +kernel
theorem dX4_readNews_49 : decode cX4_readNews 49 = .ok (.bipush (-4), 2) := by decide +kernel
theorem dX4_readNews_51 : decode cX4_readNews 51 = .ok (.if_icmp .ne 5, 3) := by decide +kernel
theorem dX4_readNews_54 : decode cX4_readNews 54 = .ok (.iconst 0, 1) := by decide +kernel
theorem dX4_readNews_55 : decode cX4_readNews 55 = .ok (.ireturn, 1) := by decide +kernel
theorem dX4_readNews_56 : decode cX4_readNews 56 = .ok (.aload_n 1, 1) := by decide +kernel
theorem dX4_readNews_57 : decode cX4_readNews 57 = .ok (.iload 4, 2) := by decide +kernel
theorem dX4_readNews_59 : decode cX4_readNews 59 = .ok (.iload_n 3, 1) := by decide +kernel
theorem dX4_readNews_60 : decode cX4_readNews 60 = .ok (.iload 5, 2) := by decide +kernel
theorem dX4_readNews_62 : decode cX4_readNews 62 = .ok (.invokevirtual 69, 3) := by decide +kernel
theorem dX4_readNews_65 : decode cX4_readNews 65 = .ok (.iinc 4 1, 3) := by decide +kernel
theorem dX4_readNews_68 : decode cX4_readNews 68 = .ok (.goto (-36), 3) := by decide +kernel
theorem dX4_readNews_71 : decode cX4_readNews 71 = .ok (.aload_n 0, 1) := by decide +kernel
theorem dX4_readNews_72 : decode cX4_readNews 72 = .ok (.bipush 59, 2) := by decide +kernel
theorem dX4_readNews_74 : decode cX4_readNews 74 = .ok (.invokevirtual 34, 3) := by decide +kernel
theorem dX4_readNews_77 : decode cX4_readNews 77 = .ok (.ireturn, 1) := by decide +kernel
set_option maxRecDepth 20000 in
theorem ggX4_number_X4_figure : GoodIn wsX4_number wsX4_figure := goodIn_r _ [5, 6, 7, 8, 9, 4, 10, 11, 12, 13, 14, 15] (by decide +kernel) (by decide +kernel)
set_option maxRecDepth 20000 in
theorem gX4_number_X4_figure : GoodIn wsX4_number (wsV RX4 66 RX4 yX4_figure wsX4_figure) := goodIn_app (goodIn_of _ (by decide +kernel)) ggX4_number_X4_figure
theorem dX4_number_0 : decode cX4_number 0 = .ok (.aload_n 0, 1) := by decide +kernel
theorem dX4_number_1 : decode cX4_number 1 = .ok (.invokevirtual 66, 3) := by decide +kernel
theorem dX4_number_4 : decode cX4_number 4 = .ok (.istore_n 1, 1) := by decide +kernel
theorem dX4_number_5 : decode cX4_number 5 = .ok (.iload_n 1, 1) := by decide +kernel
theorem dX4_number_6 : decode cX4_number 6 = .ok (.bipush (-4), 2) := by decide +kernel
theorem dX4_number_8 : decode cX4_number 8 = .ok (.if_icmp .ne 6, 3) := by decide +kernel
theorem dX4_number_11 : decode cX4_number 11 = .ok (.bipush (-4), 2) := by decide +kernel
theorem dX4_number_13 : decode cX4_number 13 = .ok (.ireturn, 1) := by decide +kernel
theorem dX4_number_14 : decode cX4_number 14 = .ok (.aload_n 0, 1) := by decide +kernel
theorem dX4_number_15 : decode cX4_number 15 = .ok (.invokevirtual 66, 3) := by decide +kernel
theorem dX4_number_18 : decode cX4_number 18 = .ok (.istore_n 2, 1) := by decide +kernel
theorem dX4_number_19 : decode cX4_number 19 = .ok (.iload_n 2, 1) := by decide +kernel
theorem dX4_number_20 : decode cX4_number 20 = .ok (.bipush (-4), 2) := by decide +kernel
theorem dX4_number_22 : decode cX4_number 22 = .ok (.if_icmp .ne 7, 3) := by decide +kernel
theorem dX4_number_25 : decode cX4_number 25 = .ok (.iload_n 1, 1) := by decide +kernel
theorem dX4_number_26 : decode cX4_number 26 = .ok (.goto 9, 3) := by decide +kernel
theorem dX4_number_29 : decode cX4_number 29 = .ok (.bipush 10, 2) := by decide +kernel
theorem dX4_number_31 : decode cX4_number 31 = .ok (.iload_n 1, 1) := by decide +kernel
theorem dX4_number_32 : decode cX4_number 32 = .ok (.imul, 1) := by decide +kernel
theorem dX4_number_33 : decode cX4_number 33 = .ok (.iload_n 2, 1) := by decide +kernel
theorem dX4_number_34 : decode cX4_number 34 = .ok (.iadd, 1) := by decide +kernel
theorem dX4_number_35 : decode cX4_number 35 = .ok (.ireturn, 1) := by decide +kernel
set_option maxRecDepth 20000 in
theorem ggX4_figure_X4_next : GoodIn wsX4_figure wsX4_next := goodIn_r _ [6, 1, 7, 8, 9, 10, 11] (by decide +kernel) (by decide +kernel)
set_option maxRecDepth 20000 in
theorem gX4_figure_X4_next : GoodIn wsX4_figure (wsV RX4 73 RX4 yX4_next wsX4_next) := goodIn_app (goodIn_of _ (by decide +kernel)) ggX4_figure_X4_next
theorem dX4_figure_0 : decode cX4_figure 0 = .ok (.aload_n 0, 1) := by decide +kernel
theorem dX4_figure_1 : decode cX4_figure 1 = .ok (.invokevirtual 73, 3) := by decide +kernel
theorem dX4_figure_4 : decode cX4_figure 4 = .ok (.istore_n 1, 1) := by decide +kernel
theorem dX4_figure_5 : decode cX4_figure 5 = .ok (.iload_n 1, 1) := by decide +kernel
theorem dX4_figure_6 : decode cX4_figure 6 = .ok (.bipush 48, 2) := by decide +kernel
theorem dX4_figure_8 : decode cX4_figure 8 = .ok (.if_icmp .lt 9, 3) := by decide +kernel
theorem dX4_figure_11 : decode cX4_figure 11 = .ok (.iload_n 1, 1) := by decide +kernel
theorem dX4_figure_12 : decode cX4_figure 12 = .ok (.bipush 57, 2) := by decide +kernel
theorem dX4_figure_14 : decode cX4_figure 14 = .ok (.if_icmp .le 6, 3) := by decide +kernel
theorem dX4_figure_17 : decode cX4_figure 17 = .ok (.bipush (-4), 2) := by decide +kernel
theorem dX4_figure_19 : decode cX4_figure 19 = .ok (.ireturn, 1) := by decide +kernel
theorem dX4_figure_20 : decode cX4_figure 20 = .ok (.aload_n 0, 1) := by decide +kernel
theorem dX4_figure_21 : decode cX4_figure 21 = .ok (.dup, 1) := by decide +kernel
theorem dX4_figure_22 : decode cX4_figure 22 = .ok (.getfield 24, 3) := by decide +kernel
theorem dX4_figure_25 : decode cX4_figure 25 = .ok (.iconst 1, 1) := by decide +kernel
theorem dX4_figure_26 : decode cX4_figure 26 = .ok (.iadd, 1) := by decide +kernel
theorem dX4_figure_27 : decode cX4_figure 27 = .ok (.putfield 24, 3) := by decide +kernel
theorem dX4_figure_30 : decode cX4_figure 30 = .ok (.iload_n 1, 1) := by decide +kernel
theorem dX4_figure_31 : decode cX4_figure 31 = .ok (.bipush 48, 2) := by decide +kernel
theorem dX4_figure_33 : decode cX4_figure 33 = .ok (.isub, 1) := by decide +kernel
theorem dX4_figure_34 : decode cX4_figure 34 = .ok (.ireturn, 1) := by decide +kernel
set_option maxRecDepth 20000 in
theorem ggX4_takes_X4_next : GoodIn wsX4_takes wsX4_next := goodIn_r _ [6, 1, 7, 8, 9, 10, 11] (by decide +kernel) (by decide +kernel)
set_option maxRecDepth 20000 in
theorem gX4_takes_X4_next : GoodIn wsX4_takes (wsV RX4 73 RX4 yX4_next wsX4_next) := goodIn_app (goodIn_of _ (by decide +kernel)) ggX4_takes_X4_next
theorem dX4_takes_0 : decode cX4_takes 0 = .ok (.aload_n 0, 1) := by decide +kernel
theorem dX4_takes_1 : decode cX4_takes 1 = .ok (.invokevirtual 73, 3) := by decide +kernel
theorem dX4_takes_4 : decode cX4_takes 4 = .ok (.iload_n 1, 1) := by decide +kernel
theorem dX4_takes_5 : decode cX4_takes 5 = .ok (.if_icmp .eq 5, 3) := by decide +kernel
theorem dX4_takes_8 : decode cX4_takes 8 = .ok (.iconst 0, 1) := by decide +kernel
