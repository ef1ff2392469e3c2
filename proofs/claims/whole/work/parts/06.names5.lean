theorem dX6_prove_47 : decode cX6_prove 47 = .ok (.iload_n 3, 1) := by decide +kernel
theorem dX6_prove_48 : decode cX6_prove 48 = .ok (.iadd, 1) := by decide +kernel
theorem dX6_prove_49 : decode cX6_prove 49 = .ok (.invokestatic 135, 3) := by decide +kernel
theorem dX6_prove_52 : decode cX6_prove 52 = .ok (.istore 5, 2) := by decide +kernel
theorem dX6_prove_54 : decode cX6_prove 54 = .ok (.iload 5, 2) := by decide +kernel
theorem dX6_prove_56 : decode cX6_prove 56 = .ok (.aload_n 0, 1) := by decide +kernel
theorem dX6_prove_57 : decode cX6_prove 57 = .ok (.getfield 22, 3) := by decide +kernel
theorem dX6_prove_60 : decode cX6_prove 60 = .ok (.iload 4, 2) := by decide +kernel
theorem dX6_prove_62 : decode cX6_prove 62 = .ok (.iaload, 1) := by decide +kernel
theorem dX6_prove_63 : decode cX6_prove 63 = .ok (.if_icmp .ne 6, 3) := by decide +kernel
theorem dX6_prove_66 : decode cX6_prove 66 = .ok (.bipush (-2), 2) := by decide +kernel
theorem dX6_prove_68 : decode cX6_prove 68 = .ok (.ireturn, 1) := by decide +kernel
theorem dX6_prove_69 : decode cX6_prove 69 = .ok (.aload_n 0, 1) := by decide +kernel
theorem dX6_prove_70 : decode cX6_prove 70 = .ok (.invokevirtual 138, 3) := by decide +kernel
theorem dX6_prove_73 : decode cX6_prove 73 = .ok (.aload_n 0, 1) := by decide +kernel
theorem dX6_prove_74 : decode cX6_prove 74 = .ok (.getfield 22, 3) := by decide +kernel
theorem dX6_prove_77 : decode cX6_prove 77 = .ok (.iload 4, 2) := by decide +kernel
theorem dX6_prove_79 : decode cX6_prove 79 = .ok (.iload 5, 2) := by decide +kernel
theorem dX6_prove_81 : decode cX6_prove 81 = .ok (.iastore, 1) := by decide +kernel
theorem dX6_prove_82 : decode cX6_prove 82 = .ok (.iload 5, 2) := by decide +kernel
theorem dX6_prove_84 : decode cX6_prove 84 = .ok (.ireturn, 1) := by decide +kernel
set_option maxRecDepth 20000 in
theorem ggX6_hand_X6_isNews : GoodIn wsX6_hand wsX6_isNews := goodIn_r _ [6, 7, 8, 9, 5, 10, 21, 22, 23, 24, 25, 26, 27, 28, 29, 30, 31, 32, 33, 34, 35, 36, 37] (by decide +kernel) (by decide +kernel)
set_option maxRecDepth 20000 in
theorem gX6_hand_X6_isNews : GoodIn wsX6_hand (wsV RX6 116 RX6 yX6_isNews wsX6_isNews) := goodIn_app (goodIn_of _ (by decide +kernel)) ggX6_hand_X6_isNews
set_option maxRecDepth 20000 in
theorem ggX6_hand_X6_isCourtier : GoodIn wsX6_hand wsX6_isCourtier := goodIn_r _ [14, 7, 8, 9, 5, 10, 21, 22, 23, 24, 25, 26, 27, 28, 29, 30, 31, 32, 33, 34, 35, 36, 37] (by decide +kernel) (by decide +kernel)
set_option maxRecDepth 20000 in
theorem gX6_hand_X6_isCourtier : GoodIn wsX6_hand (wsV RX6 110 RX6 yX6_isCourtier wsX6_isCourtier) := goodIn_app (goodIn_of _ (by decide +kernel)) ggX6_hand_X6_isCourtier
set_option maxRecDepth 20000 in
theorem ggX6_hand_X6_keeps : GoodIn wsX6_hand wsX6_keeps := goodIn_r _ [18, 19, 20, 1, 21, 22, 23, 24, 25, 26, 27, 28, 29, 30, 31, 32, 33, 34, 35, 36, 37] (by decide +kernel) (by decide +kernel)
set_option maxRecDepth 20000 in
theorem gX6_hand_X6_keeps : GoodIn wsX6_hand (wsV RX6 138 RX6 yX6_keeps wsX6_keeps) := goodIn_app (goodIn_of _ (by decide +kernel)) ggX6_hand_X6_keeps
theorem dX6_hand_0 : decode cX6_hand 0 = .ok (.aload_n 0, 1) := by decide +kernel
theorem dX6_hand_1 : decode cX6_hand 1 = .ok (.iload_n 1, 1) := by decide +kernel
theorem dX6_hand_2 : decode cX6_hand 2 = .ok (.invokevirtual 116, 3) := by decide +kernel
theorem dX6_hand_5 : decode cX6_hand 5 = .ok (.ifCond .eq 11, 3) := by decide +kernel
theorem dX6_hand_8 : decode cX6_hand 8 = .ok (.aload_n 0, 1) := by decide +kernel
theorem dX6_hand_9 : decode cX6_hand 9 = .ok (.iload_n 2, 1) := by decide +kernel
theorem dX6_hand_10 : decode cX6_hand 10 = .ok (.invokevirtual 110, 3) := by decide +kernel
theorem dX6_hand_13 : decode cX6_hand 13 = .ok (.ifCond .ne 5, 3) := by decide +kernel
theorem dX6_hand_16 : decode cX6_hand 16 = .ok (.iconst (-1), 1) := by decide +kernel
theorem dX6_hand_17 : decode cX6_hand 17 = .ok (.ireturn, 1) := by decide +kernel
theorem dX6_hand_18 : decode cX6_hand 18 = .ok (.aload_n 0, 1) := by decide +kernel
theorem dX6_hand_19 : decode cX6_hand 19 = .ok (.getfield 22, 3) := by decide +kernel
theorem dX6_hand_22 : decode cX6_hand 22 = .ok (.bipush 8, 2) := by decide +kernel
theorem dX6_hand_24 : decode cX6_hand 24 = .ok (.iload_n 1, 1) := by decide +kernel
theorem dX6_hand_25 : decode cX6_hand 25 = .ok (.iadd, 1) := by decide +kernel
theorem dX6_hand_26 : decode cX6_hand 26 = .ok (.iaload, 1) := by decide +kernel
theorem dX6_hand_27 : decode cX6_hand 27 = .ok (.bipush 9, 2) := by decide +kernel
theorem dX6_hand_29 : decode cX6_hand 29 = .ok (.if_icmp .eq 16, 3) := by decide +kernel
theorem dX6_hand_32 : decode cX6_hand 32 = .ok (.aload_n 0, 1) := by decide +kernel
theorem dX6_hand_33 : decode cX6_hand 33 = .ok (.getfield 22, 3) := by decide +kernel
theorem dX6_hand_36 : decode cX6_hand 36 = .ok (.bipush 8, 2) := by decide +kernel
theorem dX6_hand_38 : decode cX6_hand 38 = .ok (.iload_n 1, 1) := by decide +kernel
theorem dX6_hand_39 : decode cX6_hand 39 = .ok (.iadd, 1) := by decide +kernel
theorem dX6_hand_40 : decode cX6_hand 40 = .ok (.iaload, 1) := by decide +kernel
theorem dX6_hand_41 : decode cX6_hand 41 = .ok (.iload_n 2, 1) := by decide +kernel
theorem dX6_hand_42 : decode cX6_hand 42 = .ok (.if_icmp .ne 6, 3) := by decide +kernel
theorem dX6_hand_45 : decode cX6_hand 45 = .ok (.bipush (-2), 2) := by decide +kernel
theorem dX6_hand_47 : decode cX6_hand 47 = .ok (.ireturn, 1) := by decide +kernel
theorem dX6_hand_48 : decode cX6_hand 48 = .ok (.aload_n 0, 1) := by decide +kernel
theorem dX6_hand_49 : decode cX6_hand 49 = .ok (.invokevirtual 138, 3) := by decide +kernel
theorem dX6_hand_52 : decode cX6_hand 52 = .ok (.aload_n 0, 1) := by decide +kernel
theorem dX6_hand_53 : decode cX6_hand 53 = .ok (.getfield 22, 3) := by decide +kernel
theorem dX6_hand_56 : decode cX6_hand 56 = .ok (.bipush 8, 2) := by decide +kernel
theorem dX6_hand_58 : decode cX6_hand 58 = .ok (.iload_n 1, 1) := by decide +kernel
theorem dX6_hand_59 : decode cX6_hand 59 = .ok (.iadd, 1) := by decide +kernel
theorem dX6_hand_60 : decode cX6_hand 60 = .ok (.iaload, 1) := by decide +kernel
theorem dX6_hand_61 : decode cX6_hand 61 = .ok (.istore_n 3, 1) := by decide +kernel
theorem dX6_hand_62 : decode cX6_hand 62 = .ok (.aload_n 0, 1) := by decide +kernel
theorem dX6_hand_63 : decode cX6_hand 63 = .ok (.getfield 22, 3) := by decide +kernel
theorem dX6_hand_66 : decode cX6_hand 66 = .ok (.bipush 8, 2) := by decide +kernel
theorem dX6_hand_68 : decode cX6_hand 68 = .ok (.iload_n 1, 1) := by decide +kernel
theorem dX6_hand_69 : decode cX6_hand 69 = .ok (.iadd, 1) := by decide +kernel
theorem dX6_hand_70 : decode cX6_hand 70 = .ok (.iload_n 2, 1) := by decide +kernel
theorem dX6_hand_71 : decode cX6_hand 71 = .ok (.iastore, 1) := by decide +kernel
theorem dX6_hand_72 : decode cX6_hand 72 = .ok (.iload_n 3, 1) := by decide +kernel
theorem dX6_hand_73 : decode cX6_hand 73 = .ok (.ireturn, 1) := by decide +kernel
theorem dX6_changes_0 : decode cX6_changes 0 = .ok (.aload_n 0, 1) := by decide +kernel
theorem dX6_changes_1 : decode cX6_changes 1 = .ok (.getfield 22, 3) := by decide +kernel
theorem dX6_changes_4 : decode cX6_changes 4 = .ok (.iconst 1, 1) := by decide +kernel
theorem dX6_changes_5 : decode cX6_changes 5 = .ok (.iload_n 1, 1) := by decide +kernel
theorem dX6_changes_6 : decode cX6_changes 6 = .ok (.iadd, 1) := by decide +kernel
theorem dX6_changes_7 : decode cX6_changes 7 = .ok (.iaload, 1) := by decide +kernel
theorem dX6_changes_8 : decode cX6_changes 8 = .ok (.istore_n 3, 1) := by decide +kernel
theorem dX6_changes_9 : decode cX6_changes 9 = .ok (.aload_n 0, 1) := by decide +kernel
theorem dX6_changes_10 : decode cX6_changes 10 = .ok (.getfield 22, 3) := by decide +kernel
theorem dX6_changes_13 : decode cX6_changes 13 = .ok (.iconst 1, 1) := by decide +kernel
theorem dX6_changes_14 : decode cX6_changes 14 = .ok (.iload_n 1, 1) := by decide +kernel
theorem dX6_changes_15 : decode cX6_changes 15 = .ok (.iadd, 1) := by decide +kernel
theorem dX6_changes_16 : decode cX6_changes 16 = .ok (.aload_n 0, 1) := by decide +kernel
theorem dX6_changes_17 : decode cX6_changes 17 = .ok (.getfield 22, 3) := by decide +kernel
theorem dX6_changes_20 : decode cX6_changes 20 = .ok (.iconst 1, 1) := by decide +kernel
theorem dX6_changes_21 : decode cX6_changes 21 = .ok (.iload_n 2, 1) := by decide +kernel
theorem dX6_changes_22 : decode cX6_changes 22 = .ok (.iadd, 1) := by decide +kernel
theorem dX6_changes_23 : decode cX6_changes 23 = .ok (.iaload, 1) := by decide +kernel
theorem dX6_changes_24 : decode cX6_changes 24 = .ok (.iastore, 1) := by decide +kernel
theorem dX6_changes_25 : decode cX6_changes 25 = .ok (.aload_n 0, 1) := by decide +kernel
theorem dX6_changes_26 : decode cX6_changes 26 = .ok (.getfield 22, 3) := by decide +kernel
theorem dX6_changes_29 : decode cX6_changes 29 = .ok (.iconst 1, 1) := by decide +kernel
theorem dX6_changes_30 : decode cX6_changes 30 = .ok (.iload_n 2, 1) := by decide +kernel
theorem dX6_changes_31 : decode cX6_changes 31 = .ok (.iadd, 1) := by decide +kernel
theorem dX6_changes_32 : decode cX6_changes 32 = .ok (.iload_n 3, 1) := by decide +kernel
theorem dX6_changes_33 : decode cX6_changes 33 = .ok (.iastore, 1) := by decide +kernel
theorem dX6_changes_34 : decode cX6_changes 34 = .ok (.return_, 1) := by decide +kernel
set_option maxRecDepth 20000 in
theorem ggX6_swap_X6_isCourtier : GoodIn wsX6_swap wsX6_isCourtier := goodIn_r _ [6, 7, 8, 9, 5, 10, 21, 22, 23, 24, 25, 26, 27, 28, 29, 30, 31, 32, 33, 34, 35, 36, 37] (by decide +kernel) (by decide +kernel)
set_option maxRecDepth 20000 in
theorem gX6_swap_X6_isCourtier : GoodIn wsX6_swap (wsV RX6 110 RX6 yX6_isCourtier wsX6_isCourtier) := goodIn_app (goodIn_of _ (by decide +kernel)) ggX6_swap_X6_isCourtier
set_option maxRecDepth 20000 in
theorem ggX6_swap_X6_keeps : GoodIn wsX6_swap wsX6_keeps := goodIn_r _ [14, 15, 16, 1, 21, 22, 23, 24, 25, 26, 27, 28, 29, 30, 31, 32, 33, 34, 35, 36, 37] (by decide +kernel) (by decide +kernel)
set_option maxRecDepth 20000 in
theorem gX6_swap_X6_keeps : GoodIn wsX6_swap (wsV RX6 138 RX6 yX6_keeps wsX6_keeps) := goodIn_app (goodIn_of _ (by decide +kernel)) ggX6_swap_X6_keeps
set_option maxRecDepth 20000 in
theorem ggX6_swap_X6_changes : GoodIn wsX6_swap wsX6_changes := goodIn_r _ [20, 1, 21, 22, 23, 24, 25, 26, 27, 28, 29, 30, 31, 32, 33, 34, 35, 36, 37] (by decide +kernel) (by decide +kernel)
set_option maxRecDepth 20000 in
theorem gX6_swap_X6_changes : GoodIn wsX6_swap (wsV RX6 147 RX6 yX6_changes wsX6_changes) := goodIn_app (goodIn_of _ (by decide +kernel)) ggX6_swap_X6_changes
theorem dX6_swap_0 : decode cX6_swap 0 = .ok (.aload_n 0, 1) := by decide +kernel
theorem dX6_swap_1 : decode cX6_swap 1 = .ok (.iload_n 1, 1) := by decide +kernel
theorem dX6_swap_2 : decode cX6_swap 2 = .ok (.invokevirtual 110, 3) := by decide +kernel
theorem dX6_swap_5 : decode cX6_swap 5 = .ok (.ifCond .eq 16, 3) := by decide +kernel
theorem dX6_swap_8 : decode cX6_swap 8 = .ok (.aload_n 0, 1) := by decide +kernel
theorem dX6_swap_9 : decode cX6_swap 9 = .ok (.iload_n 2, 1) := by decide +kernel
theorem dX6_swap_10 : decode cX6_swap 10 = .ok (.invokevirtual 110, 3) := by decide +kernel
theorem dX6_swap_13 : decode cX6_swap 13 = .ok (.ifCond .eq 8, 3) := by decide +kernel
theorem dX6_swap_16 : decode cX6_swap 16 = .ok (.iload_n 1, 1) := by decide +kernel
theorem dX6_swap_17 : decode cX6_swap 17 = .ok (.iload_n 2, 1) := by decide +kernel
theorem dX6_swap_18 : decode cX6_swap 18 = .ok (.if_icmp .ne 5, 3) := by decide +kernel
theorem dX6_swap_21 : decode cX6_swap 21 = .ok (.iconst (-1), 1) := by decide +kernel
theorem dX6_swap_22 : decode cX6_swap 22 = .ok (.ireturn, 1) := by decide +kernel
theorem dX6_swap_23 : decode cX6_swap 23 = .ok (.aload_n 0, 1) := by decide +kernel
theorem dX6_swap_24 : decode cX6_swap 24 = .ok (.invokevirtual 138, 3) := by decide +kernel
theorem dX6_swap_27 : decode cX6_swap 27 = .ok (.aload_n 0, 1) := by decide +kernel
theorem dX6_swap_28 : decode cX6_swap 28 = .ok (.iload_n 1, 1) := by decide +kernel
theorem dX6_swap_29 : decode cX6_swap 29 = .ok (.iload_n 2, 1) := by decide +kernel
theorem dX6_swap_30 : decode cX6_swap 30 = .ok (.invokevirtual 147, 3) := by decide +kernel
theorem dX6_swap_33 : decode cX6_swap 33 = .ok (.aload_n 0, 1) := by decide +kernel
theorem dX6_swap_34 : decode cX6_swap 34 = .ok (.getfield 22, 3) := by decide +kernel
theorem dX6_swap_37 : decode cX6_swap 37 = .ok (.iconst 1, 1) := by decide +kernel
theorem dX6_swap_38 : decode cX6_swap 38 = .ok (.iload_n 1, 1) := by decide +kernel
theorem dX6_swap_39 : decode cX6_swap 39 = .ok (.iadd, 1) := by decide +kernel
theorem dX6_swap_40 : decode cX6_swap 40 = .ok (.iaload, 1) := by decide +kernel
theorem dX6_swap_41 : decode cX6_swap 41 = .ok (.ireturn, 1) := by decide +kernel
theorem dX6_undo_0 : decode cX6_undo 0 = .ok (.aload_n 0, 1) := by decide +kernel
theorem dX6_undo_1 : decode cX6_undo 1 = .ok (.getfield 97, 3) := by decide +kernel
theorem dX6_undo_4 : decode cX6_undo 4 = .ok (.ifCond .ne 6, 3) := by decide +kernel
theorem dX6_undo_7 : decode cX6_undo 7 = .ok (.bipush (-2), 2) := by decide +kernel
theorem dX6_undo_9 : decode cX6_undo 9 = .ok (.ireturn, 1) := by decide +kernel
theorem dX6_undo_10 : decode cX6_undo 10 = .ok (.aload_n 0, 1) := by decide +kernel
theorem dX6_undo_11 : decode cX6_undo 11 = .ok (.dup, 1) := by decide +kernel
theorem dX6_undo_12 : decode cX6_undo 12 = .ok (.getfield 97, 3) := by decide +kernel
theorem dX6_undo_15 : decode cX6_undo 15 = .ok (.iconst 1, 1) := by decide +kernel
theorem dX6_undo_16 : decode cX6_undo 16 = .ok (.isub, 1) := by decide +kernel
theorem dX6_undo_17 : decode cX6_undo 17 = .ok (.putfield 97, 3) := by decide +kernel
theorem dX6_undo_20 : decode cX6_undo 20 = .ok (.iconst 0, 1) := by decide +kernel
theorem dX6_undo_21 : decode cX6_undo 21 = .ok (.istore_n 1, 1) := by decide +kernel
theorem dX6_undo_22 : decode cX6_undo 22 = .ok (.iload_n 1, 1) := by decide +kernel
theorem dX6_undo_23 : decode cX6_undo 23 = .ok (.bipush 56, 2) := by decide +kernel
theorem dX6_undo_25 : decode cX6_undo 25 = .ok (.if_icmp .ge 29, 3) := by decide +kernel
theorem dX6_undo_28 : decode cX6_undo 28 = .ok (.aload_n 0, 1) := by decide +kernel
theorem dX6_undo_29 : decode cX6_undo 29 = .ok (.getfield 22, 3) := by decide +kernel
theorem dX6_undo_32 : decode cX6_undo 32 = .ok (.iload_n 1, 1) := by decide +kernel
theorem dX6_undo_33 : decode cX6_undo 33 = .ok (.aload_n 0, 1) := by decide +kernel
theorem dX6_undo_34 : decode cX6_undo 34 = .ok (.getfield 25, 3) := by decide +kernel
theorem dX6_undo_37 : decode cX6_undo 37 = .ok (.bipush 56, 2) := by decide +kernel
theorem dX6_undo_39 : decode cX6_undo 39 = .ok (.aload_n 0, 1) := by decide +kernel
theorem dX6_undo_40 : decode cX6_undo 40 = .ok (.getfield 97, 3) := by decide +kernel
theorem dX6_undo_43 : decode cX6_undo 43 = .ok (.imul, 1) := by decide +kernel
theorem dX6_undo_44 : decode cX6_undo 44 = .ok (.iload_n 1, 1) := by decide +kernel
theorem dX6_undo_45 : decode cX6_undo 45 = .ok (.iadd, 1) := by decide +kernel
theorem dX6_undo_46 : decode cX6_undo 46 = .ok (.iaload, 1) := by decide +kernel
theorem dX6_undo_47 : decode cX6_undo 47 = .ok (.iastore, 1) := by decide +kernel
theorem dX6_undo_48 : decode cX6_undo 48 = .ok (.iinc 1 1, 3) := by decide +kernel
theorem dX6_undo_51 : decode cX6_undo 51 = .ok (.goto (-29), 3) := by decide +kernel
theorem dX6_undo_54 : decode cX6_undo 54 = .ok (.aload_n 0, 1) := by decide +kernel
theorem dX6_undo_55 : decode cX6_undo 55 = .ok (.getfield 97, 3) := by decide +kernel
theorem dX6_undo_58 : decode cX6_undo 58 = .ok (.ireturn, 1) := by decide +kernel
theorem dX6_holds_0 : decode cX6_holds 0 = .ok (.iconst 0, 1) := by decide +kernel
theorem dX6_holds_1 : decode cX6_holds 1 = .ok (.istore_n 1, 1) := by decide +kernel
theorem dX6_holds_2 : decode cX6_holds 2 = .ok (.iload_n 1, 1) := by decide +kernel
theorem dX6_holds_3 : decode cX6_holds 3 = .ok (.bipush 56, 2) := by decide +kernel
theorem dX6_holds_5 : decode cX6_holds 5 = .ok (.if_icmp .ge 21, 3) := by decide +kernel
theorem dX6_holds_8 : decode cX6_holds 8 = .ok (.aload_n 0, 1) := by decide +kernel
theorem dX6_holds_9 : decode cX6_holds 9 = .ok (.getfield 37, 3) := by decide +kernel
theorem dX6_holds_12 : decode cX6_holds 12 = .ok (.iload_n 1, 1) := by decide +kernel
theorem dX6_holds_13 : decode cX6_holds 13 = .ok (.aload_n 0, 1) := by decide +kernel
theorem dX6_holds_14 : decode cX6_holds 14 = .ok (.getfield 22, 3) := by decide +kernel
theorem dX6_holds_17 : decode cX6_holds 17 = .ok (.iload_n 1, 1) := by decide +kernel
theorem dX6_holds_18 : decode cX6_holds 18 = .ok (.iaload, 1) := by decide +kernel
theorem dX6_holds_19 : decode cX6_holds 19 = .ok (.iastore, 1) := by decide +kernel
theorem dX6_holds_20 : decode cX6_holds 20 = .ok (.iinc 1 1, 3) := by decide +kernel
theorem dX6_holds_23 : decode cX6_holds 23 = .ok (.goto (-21), 3) := by decide +kernel
theorem dX6_holds_26 : decode cX6_holds 26 = .ok (.return_, 1) := by decide +kernel
theorem dX6_lets_0 : decode cX6_lets 0 = .ok (.iconst 0, 1) := by decide +kernel
theorem dX6_lets_1 : decode cX6_lets 1 = .ok (.istore_n 1, 1) := by decide +kernel
theorem dX6_lets_2 : decode cX6_lets 2 = .ok (.iload_n 1, 1) := by decide +kernel
theorem dX6_lets_3 : decode cX6_lets 3 = .ok (.bipush 56, 2) := by decide +kernel
theorem dX6_lets_5 : decode cX6_lets 5 = .ok (.if_icmp .ge 21, 3) := by decide +kernel
theorem dX6_lets_8 : decode cX6_lets 8 = .ok (.aload_n 0, 1) := by decide +kernel
theorem dX6_lets_9 : decode cX6_lets 9 = .ok (.getfield 22, 3) := by decide +kernel
theorem dX6_lets_12 : decode cX6_lets 12 = .ok (.iload_n 1, 1) := by decide +kernel
theorem dX6_lets_13 : decode cX6_lets 13 = .ok (.aload_n 0, 1) := by decide +kernel
theorem dX6_lets_14 : decode cX6_lets 14 = .ok (.getfield 37, 3) := by decide +kernel
theorem dX6_lets_17 : decode cX6_lets 17 = .ok (.iload_n 1, 1) := by decide +kernel
theorem dX6_lets_18 : decode cX6_lets 18 = .ok (.iaload, 1) := by decide +kernel
theorem dX6_lets_19 : decode cX6_lets 19 = .ok (.iastore, 1) := by decide +kernel
theorem dX6_lets_20 : decode cX6_lets 20 = .ok (.iinc 1 1, 3) := by decide +kernel
theorem dX6_lets_23 : decode cX6_lets 23 = .ok (.goto (-21), 3) := by decide +kernel
theorem dX6_lets_26 : decode cX6_lets 26 = .ok (.return_, 1) := by decide +kernel
set_option maxRecDepth 20000 in
theorem ggX6_behind_X6_in : GoodIn wsX6_behind wsX6_in := goodIn_r _ [5] (by decide +kernel) (by decide +kernel)
set_option maxRecDepth 20000 in
theorem gX6_behind_X6_in : GoodIn wsX6_behind (va_wsS RX6 63 yX6_in wsX6_in) := goodIn_app (goodIn_of _ (by decide +kernel)) ggX6_behind_X6_in
set_option maxRecDepth 20000 in
theorem ggX6_behind_X6_isNews : GoodIn wsX6_behind wsX6_isNews := goodIn_r _ [9, 10, 2, 3, 4, 5, 55, 56, 57, 58, 59, 60, 61, 62, 63, 64, 65, 66, 67, 68, 69, 70, 71] (by decide +kernel) (by decide +kernel)
set_option maxRecDepth 20000 in
theorem gX6_behind_X6_isNews : GoodIn wsX6_behind (wsV RX6 116 RX6 yX6_isNews wsX6_isNews) := goodIn_app (goodIn_of _ (by decide +kernel)) ggX6_behind_X6_isNews
set_option maxRecDepth 20000 in
theorem ggX6_behind_X6_isCourtier : GoodIn wsX6_behind wsX6_isCourtier := goodIn_r _ [14, 10, 2, 3, 4, 5, 55, 56, 57, 58, 59, 60, 61, 62, 63, 64, 65, 66, 67, 68, 69, 70, 71] (by decide +kernel) (by decide +kernel)
set_option maxRecDepth 20000 in
theorem gX6_behind_X6_isCourtier : GoodIn wsX6_behind (wsV RX6 110 RX6 yX6_isCourtier wsX6_isCourtier) := goodIn_app (goodIn_of _ (by decide +kernel)) ggX6_behind_X6_isCourtier
set_option maxRecDepth 20000 in
theorem ggX6_behind_X6_holds : GoodIn wsX6_behind wsX6_holds := goodIn_r _ [18, 19, 1, 55, 56, 57, 58, 59, 60, 61, 62, 63, 64, 65, 66, 67, 68, 69, 70, 71] (by decide +kernel) (by decide +kernel)
set_option maxRecDepth 20000 in
theorem gX6_behind_X6_holds : GoodIn wsX6_behind (wsV RX6 150 RX6 yX6_holds wsX6_holds) := goodIn_app (goodIn_of _ (by decide +kernel)) ggX6_behind_X6_holds
set_option maxRecDepth 20000 in
theorem ggX6_behind_X6_passes : GoodIn wsX6_behind wsX6_passes := goodIn_r _ [23, 10, 1, 24, 25, 26, 27, 4, 28, 29, 30, 31, 32, 33, 34, 35, 36, 37, 38, 39, 40, 41, 42, 43, 44, 45, 46, 47, 48, 49, 50, 55, 56, 57, 58, 59, 60, 61, 62, 63, 64, 65, 66, 67, 68, 69, 70, 71] (by decide +kernel) (by decide +kernel)
set_option maxRecDepth 20000 in
theorem gX6_behind_X6_passes : GoodIn wsX6_behind (wsV RX6 141 RX6 yX6_passes wsX6_passes) := goodIn_app (goodIn_of _ (by decide +kernel)) ggX6_behind_X6_passes
set_option maxRecDepth 20000 in
theorem ggX6_behind_X6_lets : GoodIn wsX6_behind wsX6_lets := goodIn_r _ [54, 1, 19, 55, 56, 57, 58, 59, 60, 61, 62, 63, 64, 65, 66, 67, 68, 69, 70, 71] (by decide +kernel) (by decide +kernel)
set_option maxRecDepth 20000 in
theorem gX6_behind_X6_lets : GoodIn wsX6_behind (wsV RX6 153 RX6 yX6_lets wsX6_lets) := goodIn_app (goodIn_of _ (by decide +kernel)) ggX6_behind_X6_lets
theorem dX6_behind_0 : decode cX6_behind 0 = .ok (.iload_n 1, 1) := by decide +kernel
theorem dX6_behind_1 : decode cX6_behind 1 = .ok (.iconst 0, 1) := by decide +kernel
theorem dX6_behind_2 : decode cX6_behind 2 = .ok (.bipush 40, 2) := by decide +kernel
theorem dX6_behind_4 : decode cX6_behind 4 = .ok (.invokestatic 63, 3) := by decide +kernel
theorem dX6_behind_7 : decode cX6_behind 7 = .ok (.ifCond .eq 24, 3) := by decide +kernel
theorem dX6_behind_10 : decode cX6_behind 10 = .ok (.aload_n 0, 1) := by decide +kernel
theorem dX6_behind_11 : decode cX6_behind 11 = .ok (.iload_n 2, 1) := by decide +kernel
theorem dX6_behind_12 : decode cX6_behind 12 = .ok (.invokevirtual 116, 3) := by decide +kernel
theorem dX6_behind_15 : decode cX6_behind 15 = .ok (.ifCond .eq 16, 3) := by decide +kernel
theorem dX6_behind_18 : decode cX6_behind 18 = .ok (.iload_n 3, 1) := by decide +kernel
theorem dX6_behind_19 : decode cX6_behind 19 = .ok (.iconst (-1), 1) := by decide +kernel
theorem dX6_behind_20 : decode cX6_behind 20 = .ok (.if_icmp .eq 13, 3) := by decide +kernel
theorem dX6_behind_23 : decode cX6_behind 23 = .ok (.aload_n 0, 1) := by decide +kernel
theorem dX6_behind_24 : decode cX6_behind 24 = .ok (.iload_n 3, 1) := by decide +kernel
theorem dX6_behind_25 : decode cX6_behind 25 = .ok (.invokevirtual 110, 3) := by decide +kernel
theorem dX6_behind_28 : decode cX6_behind 28 = .ok (.ifCond .ne 5, 3) := by decide +kernel
theorem dX6_behind_31 : decode cX6_behind 31 = .ok (.iconst (-1), 1) := by decide +kernel
theorem dX6_behind_32 : decode cX6_behind 32 = .ok (.ireturn, 1) := by decide +kernel
theorem dX6_behind_33 : decode cX6_behind 33 = .ok (.aload_n 0, 1) := by decide +kernel
theorem dX6_behind_34 : decode cX6_behind 34 = .ok (.invokevirtual 150, 3) := by decide +kernel
theorem dX6_behind_37 : decode cX6_behind 37 = .ok (.iconst 0, 1) := by decide +kernel
theorem dX6_behind_38 : decode cX6_behind 38 = .ok (.istore 4, 2) := by decide +kernel
theorem dX6_behind_40 : decode cX6_behind 40 = .ok (.iload 4, 2) := by decide +kernel
theorem dX6_behind_42 : decode cX6_behind 42 = .ok (.iload_n 1, 1) := by decide +kernel
theorem dX6_behind_43 : decode cX6_behind 43 = .ok (.if_icmp .ge 13, 3) := by decide +kernel
theorem dX6_behind_46 : decode cX6_behind 46 = .ok (.aload_n 0, 1) := by decide +kernel
theorem dX6_behind_47 : decode cX6_behind 47 = .ok (.invokevirtual 141, 3) := by decide +kernel
theorem dX6_behind_50 : decode cX6_behind 50 = .ok (.iinc 4 1, 3) := by decide +kernel
theorem dX6_behind_53 : decode cX6_behind 53 = .ok (.goto (-13), 3) := by decide +kernel
theorem dX6_behind_56 : decode cX6_behind 56 = .ok (.iload_n 3, 1) := by decide +kernel
theorem dX6_behind_57 : decode cX6_behind 57 = .ok (.iconst (-1), 1) := by decide +kernel
theorem dX6_behind_58 : decode cX6_behind 58 = .ok (.if_icmp .ne 15, 3) := by decide +kernel
theorem dX6_behind_61 : decode cX6_behind 61 = .ok (.aload_n 0, 1) := by decide +kernel
theorem dX6_behind_62 : decode cX6_behind 62 = .ok (.getfield 22, 3) := by decide +kernel
theorem dX6_behind_65 : decode cX6_behind 65 = .ok (.bipush 8, 2) := by decide +kernel
theorem dX6_behind_67 : decode cX6_behind 67 = .ok (.iload_n 2, 1) := by decide +kernel
theorem dX6_behind_68 : decode cX6_behind 68 = .ok (.iadd, 1) := by decide +kernel
theorem dX6_behind_69 : decode cX6_behind 69 = .ok (.iaload, 1) := by decide +kernel
theorem dX6_behind_70 : decode cX6_behind 70 = .ok (.goto 17, 3) := by decide +kernel
theorem dX6_behind_73 : decode cX6_behind 73 = .ok (.aload_n 0, 1) := by decide +kernel
theorem dX6_behind_74 : decode cX6_behind 74 = .ok (.getfield 22, 3) := by decide +kernel
theorem dX6_behind_77 : decode cX6_behind 77 = .ok (.bipush 14, 2) := by decide +kernel
theorem dX6_behind_79 : decode cX6_behind 79 = .ok (.bipush 7, 2) := by decide +kernel
theorem dX6_behind_81 : decode cX6_behind 81 = .ok (.iload_n 2, 1) := by decide +kernel
theorem dX6_behind_82 : decode cX6_behind 82 = .ok (.imul, 1) := by decide +kernel
theorem dX6_behind_83 : decode cX6_behind 83 = .ok (.iadd, 1) := by decide +kernel
theorem dX6_behind_84 : decode cX6_behind 84 = .ok (.iload_n 3, 1) := by decide +kernel
theorem dX6_behind_85 : decode cX6_behind 85 = .ok (.iadd, 1) := by decide +kernel
theorem dX6_behind_86 : decode cX6_behind 86 = .ok (.iaload, 1) := by decide +kernel
theorem dX6_behind_87 : decode cX6_behind 87 = .ok (.istore 4, 2) := by decide +kernel
theorem dX6_behind_89 : decode cX6_behind 89 = .ok (.aload_n 0, 1) := by decide +kernel
theorem dX6_behind_90 : decode cX6_behind 90 = .ok (.invokevirtual 153, 3) := by decide +kernel
theorem dX6_behind_93 : decode cX6_behind 93 = .ok (.iload 4, 2) := by decide +kernel
theorem dX6_behind_95 : decode cX6_behind 95 = .ok (.ireturn, 1) := by decide +kernel
set_option maxRecDepth 20000 in
theorem ggX6_knownIn_X6_passes : GoodIn wsX6_knownIn wsX6_passes := goodIn_r _ [6, 7, 1, 8, 9, 10, 11, 5, 12, 13, 14, 15, 16, 17, 18, 19, 20, 21, 22, 23, 24, 25, 26, 27, 28, 29, 30, 31, 32, 33, 34, 35, 36, 37, 38, 39, 40, 41, 42, 43, 44, 45, 46, 47, 48, 49, 50, 51] (by decide +kernel) (by decide +kernel)
set_option maxRecDepth 20000 in
theorem gX6_knownIn_X6_passes : GoodIn wsX6_knownIn (wsV RX6 141 RX6 yX6_passes wsX6_passes) := goodIn_app (goodIn_of _ (by decide +kernel)) ggX6_knownIn_X6_passes
theorem dX6_knownIn_0 : decode cX6_knownIn 0 = .ok (.iconst 0, 1) := by decide +kernel
theorem dX6_knownIn_1 : decode cX6_knownIn 1 = .ok (.istore_n 2, 1) := by decide +kernel
theorem dX6_knownIn_2 : decode cX6_knownIn 2 = .ok (.iload_n 2, 1) := by decide +kernel
theorem dX6_knownIn_3 : decode cX6_knownIn 3 = .ok (.bipush 60, 2) := by decide +kernel
theorem dX6_knownIn_5 : decode cX6_knownIn 5 = .ok (.if_icmp .gt 27, 3) := by decide +kernel
theorem dX6_knownIn_8 : decode cX6_knownIn 8 = .ok (.aload_n 0, 1) := by decide +kernel
theorem dX6_knownIn_9 : decode cX6_knownIn 9 = .ok (.getfield 22, 3) := by decide +kernel
theorem dX6_knownIn_12 : decode cX6_knownIn 12 = .ok (.bipush 8, 2) := by decide +kernel
theorem dX6_knownIn_14 : decode cX6_knownIn 14 = .ok (.iload_n 1, 1) := by decide +kernel
theorem dX6_knownIn_15 : decode cX6_knownIn 15 = .ok (.iadd, 1) := by decide +kernel
theorem dX6_knownIn_16 : decode cX6_knownIn 16 = .ok (.iaload, 1) := by decide +kernel
theorem dX6_knownIn_17 : decode cX6_knownIn 17 = .ok (.bipush 9, 2) := by decide +kernel
theorem dX6_knownIn_19 : decode cX6_knownIn 19 = .ok (.if_icmp .eq 13, 3) := by decide +kernel
theorem dX6_knownIn_22 : decode cX6_knownIn 22 = .ok (.aload_n 0, 1) := by decide +kernel
theorem dX6_knownIn_23 : decode cX6_knownIn 23 = .ok (.invokevirtual 141, 3) := by decide +kernel
theorem dX6_knownIn_26 : decode cX6_knownIn 26 = .ok (.iinc 2 1, 3) := by decide +kernel
theorem dX6_knownIn_29 : decode cX6_knownIn 29 = .ok (.goto (-27), 3) := by decide +kernel
theorem dX6_knownIn_32 : decode cX6_knownIn 32 = .ok (.iload_n 2, 1) := by decide +kernel
theorem dX6_knownIn_33 : decode cX6_knownIn 33 = .ok (.bipush 60, 2) := by decide +kernel
theorem dX6_knownIn_35 : decode cX6_knownIn 35 = .ok (.if_icmp .le 8, 3) := by decide +kernel
theorem dX6_knownIn_38 : decode cX6_knownIn 38 = .ok (.bipush (-4), 2) := by decide +kernel
theorem dX6_knownIn_40 : decode cX6_knownIn 40 = .ok (.goto 4, 3) := by decide +kernel
theorem dX6_knownIn_43 : decode cX6_knownIn 43 = .ok (.iload_n 2, 1) := by decide +kernel
theorem dX6_knownIn_44 : decode cX6_knownIn 44 = .ok (.ireturn, 1) := by decide +kernel
set_option maxRecDepth 20000 in
theorem ggX6_comesIn_X6_holds : GoodIn wsX6_comesIn wsX6_holds := goodIn_r _ [5, 6, 7, 48, 49, 50, 51, 52, 53, 54, 55, 56, 57, 58, 59, 60, 61, 62, 63, 64] (by decide +kernel) (by decide +kernel)
set_option maxRecDepth 20000 in
theorem gX6_comesIn_X6_holds : GoodIn wsX6_comesIn (wsV RX6 150 RX6 yX6_holds wsX6_holds) := goodIn_app (goodIn_of _ (by decide +kernel)) ggX6_comesIn_X6_holds
set_option maxRecDepth 20000 in
theorem ggX6_comesIn_X6_knownIn : GoodIn wsX6_comesIn wsX6_knownIn := goodIn_r _ [11, 7, 12, 13, 14, 4, 15, 16, 17, 18, 19, 20, 21, 22, 23, 24, 25, 26, 27, 28, 29, 30, 31, 32, 33, 34, 35, 36, 37, 38, 39, 40, 41, 42, 43, 48, 49, 50, 51, 52, 53, 54, 55, 56, 57, 58, 59, 60, 61, 62, 63, 64] (by decide +kernel) (by decide +kernel)
set_option maxRecDepth 20000 in
theorem gX6_comesIn_X6_knownIn : GoodIn wsX6_comesIn (wsV RX6 156 RX6 yX6_knownIn wsX6_knownIn) := goodIn_app (goodIn_of _ (by decide +kernel)) ggX6_comesIn_X6_knownIn
set_option maxRecDepth 20000 in
theorem ggX6_comesIn_X6_lets : GoodIn wsX6_comesIn wsX6_lets := goodIn_r _ [47, 7, 6, 48, 49, 50, 51, 52, 53, 54, 55, 56, 57, 58, 59, 60, 61, 62, 63, 64] (by decide +kernel) (by decide +kernel)
set_option maxRecDepth 20000 in
theorem gX6_comesIn_X6_lets : GoodIn wsX6_comesIn (wsV RX6 153 RX6 yX6_lets wsX6_lets) := goodIn_app (goodIn_of _ (by decide +kernel)) ggX6_comesIn_X6_lets
theorem dX6_comesIn_0 : decode cX6_comesIn 0 = .ok (.aload_n 0, 1) := by decide +kernel
theorem dX6_comesIn_1 : decode cX6_comesIn 1 = .ok (.invokevirtual 150, 3) := by decide +kernel
theorem dX6_comesIn_4 : decode cX6_comesIn 4 = .ok (.aload_n 0, 1) := by decide +kernel
theorem dX6_comesIn_5 : decode cX6_comesIn 5 = .ok (.iload_n 1, 1) := by decide +kernel
theorem dX6_comesIn_6 : decode cX6_comesIn 6 = .ok (.invokevirtual 156, 3) := by decide +kernel
theorem dX6_comesIn_9 : decode cX6_comesIn 9 = .ok (.istore_n 2, 1) := by decide +kernel
theorem dX6_comesIn_10 : decode cX6_comesIn 10 = .ok (.aload_n 0, 1) := by decide +kernel
theorem dX6_comesIn_11 : decode cX6_comesIn 11 = .ok (.invokevirtual 153, 3) := by decide +kernel
theorem dX6_comesIn_14 : decode cX6_comesIn 14 = .ok (.iload_n 2, 1) := by decide +kernel
theorem dX6_comesIn_15 : decode cX6_comesIn 15 = .ok (.ireturn, 1) := by decide +kernel
set_option maxRecDepth 20000 in
theorem ggX6_comes_X6_isNews : GoodIn wsX6_comes wsX6_isNews := goodIn_r _ [5, 6, 7, 8, 4, 9, 59, 60, 61, 62, 63, 64, 65, 66, 67, 68, 69, 70, 71, 72, 73, 74, 75] (by decide +kernel) (by decide +kernel)
set_option maxRecDepth 20000 in
theorem gX6_comes_X6_isNews : GoodIn wsX6_comes (wsV RX6 116 RX6 yX6_isNews wsX6_isNews) := goodIn_app (goodIn_of _ (by decide +kernel)) ggX6_comes_X6_isNews
set_option maxRecDepth 20000 in
theorem ggX6_comes_X6_comesIn : GoodIn wsX6_comes wsX6_comesIn := goodIn_r _ [13, 14, 15, 16, 4, 17, 18, 19, 20, 21, 22, 23, 24, 25, 26, 27, 6, 28, 29, 30, 31, 32, 33, 34, 35, 36, 37, 38, 39, 40, 41, 42, 43, 44, 45, 46, 47, 48, 49, 50, 51, 52, 53, 54, 55, 56, 57, 58, 59, 60, 61, 62, 63, 64, 65, 66, 67, 68, 69, 70, 71, 72, 73, 74, 75] (by decide +kernel) (by decide +kernel)
set_option maxRecDepth 20000 in
theorem gX6_comes_X6_comesIn : GoodIn wsX6_comes (wsV RX6 159 RX6 yX6_comesIn wsX6_comesIn) := goodIn_app (goodIn_of _ (by decide +kernel)) ggX6_comes_X6_comesIn
theorem dX6_comes_0 : decode cX6_comes 0 = .ok (.aload_n 0, 1) := by decide +kernel
theorem dX6_comes_1 : decode cX6_comes 1 = .ok (.iload_n 1, 1) := by decide +kernel
theorem dX6_comes_2 : decode cX6_comes 2 = .ok (.invokevirtual 116, 3) := by decide +kernel
theorem dX6_comes_5 : decode cX6_comes 5 = .ok (.ifCond .eq 11, 3) := by decide +kernel
theorem dX6_comes_8 : decode cX6_comes 8 = .ok (.aload_n 0, 1) := by decide +kernel
theorem dX6_comes_9 : decode cX6_comes 9 = .ok (.iload_n 1, 1) := by decide +kernel
theorem dX6_comes_10 : decode cX6_comes 10 = .ok (.invokevirtual 159, 3) := by decide +kernel
theorem dX6_comes_13 : decode cX6_comes 13 = .ok (.goto 4, 3) := by decide +kernel
theorem dX6_comes_16 : decode cX6_comes 16 = .ok (.iconst (-1), 1) := by decide +kernel
theorem dX6_comes_17 : decode cX6_comes 17 = .ok (.ireturn, 1) := by decide +kernel
set_option maxRecDepth 20000 in
theorem ggX6_first_X6_comesIn : GoodIn wsX6_first wsX6_comesIn := goodIn_r _ [6, 7, 8, 9, 5, 10, 11, 12, 13, 14, 15, 16, 17, 18, 19, 20, 1, 21, 22, 23, 24, 25, 26, 27, 28, 29, 30, 31, 32, 33, 34, 35, 36, 37, 38, 39, 40, 41, 42, 43, 44, 45, 46, 47, 48, 49, 50, 51, 52, 53, 54, 55, 56, 57, 58, 59, 60, 61, 62, 63, 64, 65, 66, 67, 68] (by decide +kernel) (by decide +kernel)
set_option maxRecDepth 20000 in
theorem gX6_first_X6_comesIn : GoodIn wsX6_first (wsV RX6 159 RX6 yX6_comesIn wsX6_comesIn) := goodIn_app (goodIn_of _ (by decide +kernel)) ggX6_first_X6_comesIn
theorem dX6_first_0 : decode cX6_first 0 = .ok (.bipush (-4), 2) := by decide +kernel
theorem dX6_first_2 : decode cX6_first 2 = .ok (.istore_n 1, 1) := by decide +kernel
theorem dX6_first_3 : decode cX6_first 3 = .ok (.bipush 61, 2) := by decide +kernel
theorem dX6_first_5 : decode cX6_first 5 = .ok (.istore_n 2, 1) := by decide +kernel
theorem dX6_first_6 : decode cX6_first 6 = .ok (.iconst 0, 1) := by decide +kernel
theorem dX6_first_7 : decode cX6_first 7 = .ok (.istore_n 3, 1) := by decide +kernel
theorem dX6_first_8 : decode cX6_first 8 = .ok (.iload_n 3, 1) := by decide +kernel
theorem dX6_first_9 : decode cX6_first 9 = .ok (.aload_n 0, 1) := by decide +kernel
theorem dX6_first_10 : decode cX6_first 10 = .ok (.getfield 13, 3) := by decide +kernel
theorem dX6_first_13 : decode cX6_first 13 = .ok (.iconst 1, 1) := by decide +kernel
theorem dX6_first_14 : decode cX6_first 14 = .ok (.iaload, 1) := by decide +kernel
theorem dX6_first_15 : decode cX6_first 15 = .ok (.if_icmp .ge 32, 3) := by decide +kernel
theorem dX6_first_18 : decode cX6_first 18 = .ok (.aload_n 0, 1) := by decide +kernel
theorem dX6_first_19 : decode cX6_first 19 = .ok (.iload_n 3, 1) := by decide +kernel
theorem dX6_first_20 : decode cX6_first 20 = .ok (.invokevirtual 159, 3) := by decide +kernel
theorem dX6_first_23 : decode cX6_first 23 = .ok (.istore 4, 2) := by decide +kernel
theorem dX6_first_25 : decode cX6_first 25 = .ok (.iload 4, 2) := by decide +kernel
theorem dX6_first_27 : decode cX6_first 27 = .ok (.ifCond .le 14, 3) := by decide +kernel
theorem dX6_first_30 : decode cX6_first 30 = .ok (.iload 4, 2) := by decide +kernel
theorem dX6_first_32 : decode cX6_first 32 = .ok (.iload_n 2, 1) := by decide +kernel
theorem dX6_first_33 : decode cX6_first 33 = .ok (.if_icmp .ge 8, 3) := by decide +kernel
theorem dX6_first_36 : decode cX6_first 36 = .ok (.iload_n 3, 1) := by decide +kernel
theorem dX6_first_37 : decode cX6_first 37 = .ok (.istore_n 1, 1) := by decide +kernel
theorem dX6_first_38 : decode cX6_first 38 = .ok (.iload 4, 2) := by decide +kernel
theorem dX6_first_40 : decode cX6_first 40 = .ok (.istore_n 2, 1) := by decide +kernel
theorem dX6_first_41 : decode cX6_first 41 = .ok (.iinc 3 1, 3) := by decide +kernel
theorem dX6_first_44 : decode cX6_first 44 = .ok (.goto (-36), 3) := by decide +kernel
theorem dX6_first_47 : decode cX6_first 47 = .ok (.iload_n 1, 1) := by decide +kernel
theorem dX6_first_48 : decode cX6_first 48 = .ok (.ireturn, 1) := by decide +kernel
theorem dX6_ones_0 : decode cX6_ones 0 = .ok (.iconst 0, 1) := by decide +kernel
theorem dX6_ones_1 : decode cX6_ones 1 = .ok (.istore_n 1, 1) := by decide +kernel
theorem dX6_ones_2 : decode cX6_ones 2 = .ok (.iconst 0, 1) := by decide +kernel
theorem dX6_ones_3 : decode cX6_ones 3 = .ok (.istore_n 2, 1) := by decide +kernel
theorem dX6_ones_4 : decode cX6_ones 4 = .ok (.iload_n 2, 1) := by decide +kernel
theorem dX6_ones_5 : decode cX6_ones 5 = .ok (.bipush 7, 2) := by decide +kernel
theorem dX6_ones_7 : decode cX6_ones 7 = .ok (.if_icmp .ge 17, 3) := by decide +kernel
theorem dX6_ones_10 : decode cX6_ones 10 = .ok (.iload_n 1, 1) := by decide +kernel
theorem dX6_ones_11 : decode cX6_ones 11 = .ok (.iload_n 0, 1) := by decide +kernel
theorem dX6_ones_12 : decode cX6_ones 12 = .ok (.iload_n 2, 1) := by decide +kernel
theorem dX6_ones_13 : decode cX6_ones 13 = .ok (.ishr, 1) := by decide +kernel
theorem dX6_ones_14 : decode cX6_ones 14 = .ok (.iconst 1, 1) := by decide +kernel
theorem dX6_ones_15 : decode cX6_ones 15 = .ok (.iand, 1) := by decide +kernel
theorem dX6_ones_16 : decode cX6_ones 16 = .ok (.iadd, 1) := by decide +kernel
theorem dX6_ones_17 : decode cX6_ones 17 = .ok (.istore_n 1, 1) := by decide +kernel
theorem dX6_ones_18 : decode cX6_ones 18 = .ok (.iinc 2 1, 3) := by decide +kernel
theorem dX6_ones_21 : decode cX6_ones 21 = .ok (.goto (-17), 3) := by decide +kernel
theorem dX6_ones_24 : decode cX6_ones 24 = .ok (.iload_n 1, 1) := by decide +kernel
theorem dX6_ones_25 : decode cX6_ones 25 = .ok (.ireturn, 1) := by decide +kernel
set_option maxRecDepth 20000 in
theorem ggX6_fewest_X6_holds : GoodIn wsX6_fewest wsX6_holds := goodIn_r _ [7, 8, 2, 47, 48, 49, 50, 51, 52, 53, 54, 55, 56, 57, 58, 59, 60, 61, 62, 63] (by decide +kernel) (by decide +kernel)
set_option maxRecDepth 20000 in
theorem gX6_fewest_X6_holds : GoodIn wsX6_fewest (wsV RX6 150 RX6 yX6_holds wsX6_holds) := goodIn_app (goodIn_of _ (by decide +kernel)) ggX6_fewest_X6_holds
set_option maxRecDepth 20000 in
theorem ggX6_fewest_X6_passes : GoodIn wsX6_fewest wsX6_passes := goodIn_r _ [12, 1, 2, 13, 14, 15, 16, 6, 17, 18, 19, 20, 21, 22, 23, 24, 25, 26, 27, 28, 29, 30, 31, 32, 33, 34, 35, 36, 37, 38, 39, 47, 48, 49, 50, 51, 52, 53, 54, 55, 56, 57, 58, 59, 60, 61, 62, 63] (by decide +kernel) (by decide +kernel)
set_option maxRecDepth 20000 in
theorem gX6_fewest_X6_passes : GoodIn wsX6_fewest (wsV RX6 141 RX6 yX6_passes wsX6_passes) := goodIn_app (goodIn_of _ (by decide +kernel)) ggX6_fewest_X6_passes
set_option maxRecDepth 20000 in
theorem ggX6_fewest_X6_lets : GoodIn wsX6_fewest wsX6_lets := goodIn_r _ [43, 2, 8, 47, 48, 49, 50, 51, 52, 53, 54, 55, 56, 57, 58, 59, 60, 61, 62, 63] (by decide +kernel) (by decide +kernel)
set_option maxRecDepth 20000 in
theorem gX6_fewest_X6_lets : GoodIn wsX6_fewest (wsV RX6 153 RX6 yX6_lets wsX6_lets) := goodIn_app (goodIn_of _ (by decide +kernel)) ggX6_fewest_X6_lets
set_option maxRecDepth 20000 in
theorem ggX6_fewest_X6_ones : GoodIn wsX6_fewest wsX6_ones := goodIn_r _ [46] (by decide +kernel) (by decide +kernel)
set_option maxRecDepth 20000 in
theorem gX6_fewest_X6_ones : GoodIn wsX6_fewest (va_wsS RX6 162 yX6_ones wsX6_ones) := goodIn_app (goodIn_of _ (by decide +kernel)) ggX6_fewest_X6_ones
theorem dX6_fewest_0 : decode cX6_fewest 0 = .ok (.aload_n 0, 1) := by decide +kernel
theorem dX6_fewest_1 : decode cX6_fewest 1 = .ok (.invokevirtual 150, 3) := by decide +kernel
theorem dX6_fewest_4 : decode cX6_fewest 4 = .ok (.bipush (-4), 2) := by decide +kernel
theorem dX6_fewest_6 : decode cX6_fewest 6 = .ok (.istore 5, 2) := by decide +kernel
theorem dX6_fewest_8 : decode cX6_fewest 8 = .ok (.iconst 0, 1) := by decide +kernel
theorem dX6_fewest_9 : decode cX6_fewest 9 = .ok (.istore 6, 2) := by decide +kernel
theorem dX6_fewest_11 : decode cX6_fewest 11 = .ok (.iload 6, 2) := by decide +kernel
theorem dX6_fewest_13 : decode cX6_fewest 13 = .ok (.iconst 1, 1) := by decide +kernel
theorem dX6_fewest_14 : decode cX6_fewest 14 = .ok (.aload_n 0, 1) := by decide +kernel
theorem dX6_fewest_15 : decode cX6_fewest 15 = .ok (.getfield 13, 3) := by decide +kernel
theorem dX6_fewest_18 : decode cX6_fewest 18 = .ok (.iconst 0, 1) := by decide +kernel
theorem dX6_fewest_19 : decode cX6_fewest 19 = .ok (.iaload, 1) := by decide +kernel
theorem dX6_fewest_20 : decode cX6_fewest 20 = .ok (.ishl, 1) := by decide +kernel
theorem dX6_fewest_21 : decode cX6_fewest 21 = .ok (.if_icmp .ge 158, 3) := by decide +kernel
theorem dX6_fewest_24 : decode cX6_fewest 24 = .ok (.iconst 0, 1) := by decide +kernel
theorem dX6_fewest_25 : decode cX6_fewest 25 = .ok (.istore 7, 2) := by decide +kernel
theorem dX6_fewest_27 : decode cX6_fewest 27 = .ok (.iload 7, 2) := by decide +kernel
theorem dX6_fewest_29 : decode cX6_fewest 29 = .ok (.aload_n 0, 1) := by decide +kernel
theorem dX6_fewest_30 : decode cX6_fewest 30 = .ok (.getfield 13, 3) := by decide +kernel
theorem dX6_fewest_33 : decode cX6_fewest 33 = .ok (.iconst 0, 1) := by decide +kernel
theorem dX6_fewest_34 : decode cX6_fewest 34 = .ok (.iaload, 1) := by decide +kernel
theorem dX6_fewest_35 : decode cX6_fewest 35 = .ok (.if_icmp .ge 50, 3) := by decide +kernel
theorem dX6_fewest_38 : decode cX6_fewest 38 = .ok (.bipush 14, 2) := by decide +kernel
theorem dX6_fewest_40 : decode cX6_fewest 40 = .ok (.bipush 7, 2) := by decide +kernel
theorem dX6_fewest_42 : decode cX6_fewest 42 = .ok (.iload_n 1, 1) := by decide +kernel
theorem dX6_fewest_43 : decode cX6_fewest 43 = .ok (.imul, 1) := by decide +kernel
theorem dX6_fewest_44 : decode cX6_fewest 44 = .ok (.iadd, 1) := by decide +kernel
theorem dX6_fewest_45 : decode cX6_fewest 45 = .ok (.iload 7, 2) := by decide +kernel
theorem dX6_fewest_47 : decode cX6_fewest 47 = .ok (.iadd, 1) := by decide +kernel
theorem dX6_fewest_48 : decode cX6_fewest 48 = .ok (.istore 8, 2) := by decide +kernel
theorem dX6_fewest_50 : decode cX6_fewest 50 = .ok (.aload_n 0, 1) := by decide +kernel
theorem dX6_fewest_51 : decode cX6_fewest 51 = .ok (.getfield 22, 3) := by decide +kernel
theorem dX6_fewest_54 : decode cX6_fewest 54 = .ok (.iload 8, 2) := by decide +kernel
theorem dX6_fewest_56 : decode cX6_fewest 56 = .ok (.iload 6, 2) := by decide +kernel
theorem dX6_fewest_58 : decode cX6_fewest 58 = .ok (.iload 7, 2) := by decide +kernel
theorem dX6_fewest_60 : decode cX6_fewest 60 = .ok (.ishr, 1) := by decide +kernel
theorem dX6_fewest_61 : decode cX6_fewest 61 = .ok (.iconst 1, 1) := by decide +kernel
theorem dX6_fewest_62 : decode cX6_fewest 62 = .ok (.iand, 1) := by decide +kernel
theorem dX6_fewest_63 : decode cX6_fewest 63 = .ok (.iconst 1, 1) := by decide +kernel
theorem dX6_fewest_64 : decode cX6_fewest 64 = .ok (.if_icmp .ne 7, 3) := by decide +kernel
theorem dX6_fewest_67 : decode cX6_fewest 67 = .ok (.iload_n 3, 1) := by decide +kernel
theorem dX6_fewest_68 : decode cX6_fewest 68 = .ok (.goto 10, 3) := by decide +kernel
theorem dX6_fewest_71 : decode cX6_fewest 71 = .ok (.aload_n 0, 1) := by decide +kernel
theorem dX6_fewest_72 : decode cX6_fewest 72 = .ok (.getfield 22, 3) := by decide +kernel
theorem dX6_fewest_75 : decode cX6_fewest 75 = .ok (.iload 8, 2) := by decide +kernel
theorem dX6_fewest_77 : decode cX6_fewest 77 = .ok (.iaload, 1) := by decide +kernel
theorem dX6_fewest_78 : decode cX6_fewest 78 = .ok (.iastore, 1) := by decide +kernel
theorem dX6_fewest_79 : decode cX6_fewest 79 = .ok (.iinc 7 1, 3) := by decide +kernel
theorem dX6_fewest_82 : decode cX6_fewest 82 = .ok (.goto (-55), 3) := by decide +kernel
theorem dX6_fewest_85 : decode cX6_fewest 85 = .ok (.iconst 0, 1) := by decide +kernel
theorem dX6_fewest_86 : decode cX6_fewest 86 = .ok (.istore 7, 2) := by decide +kernel
theorem dX6_fewest_88 : decode cX6_fewest 88 = .ok (.iload 7, 2) := by decide +kernel
theorem dX6_fewest_90 : decode cX6_fewest 90 = .ok (.iload_n 2, 1) := by decide +kernel
theorem dX6_fewest_91 : decode cX6_fewest 91 = .ok (.if_icmp .ge 13, 3) := by decide +kernel
theorem dX6_fewest_94 : decode cX6_fewest 94 = .ok (.aload_n 0, 1) := by decide +kernel
theorem dX6_fewest_95 : decode cX6_fewest 95 = .ok (.invokevirtual 141, 3) := by decide +kernel
theorem dX6_fewest_98 : decode cX6_fewest 98 = .ok (.iinc 7 1, 3) := by decide +kernel
theorem dX6_fewest_101 : decode cX6_fewest 101 = .ok (.goto (-13), 3) := by decide +kernel
theorem dX6_fewest_104 : decode cX6_fewest 104 = .ok (.aload_n 0, 1) := by decide +kernel
theorem dX6_fewest_105 : decode cX6_fewest 105 = .ok (.getfield 22, 3) := by decide +kernel
theorem dX6_fewest_108 : decode cX6_fewest 108 = .ok (.bipush 8, 2) := by decide +kernel
theorem dX6_fewest_110 : decode cX6_fewest 110 = .ok (.iload_n 1, 1) := by decide +kernel
theorem dX6_fewest_111 : decode cX6_fewest 111 = .ok (.iadd, 1) := by decide +kernel
theorem dX6_fewest_112 : decode cX6_fewest 112 = .ok (.iaload, 1) := by decide +kernel
theorem dX6_fewest_113 : decode cX6_fewest 113 = .ok (.bipush 9, 2) := by decide +kernel
theorem dX6_fewest_115 : decode cX6_fewest 115 = .ok (.if_icmp .ne 7, 3) := by decide +kernel
theorem dX6_fewest_118 : decode cX6_fewest 118 = .ok (.iconst 1, 1) := by decide +kernel
theorem dX6_fewest_119 : decode cX6_fewest 119 = .ok (.goto 4, 3) := by decide +kernel
theorem dX6_fewest_122 : decode cX6_fewest 122 = .ok (.iconst 0, 1) := by decide +kernel
theorem dX6_fewest_123 : decode cX6_fewest 123 = .ok (.iload 4, 2) := by decide +kernel
theorem dX6_fewest_125 : decode cX6_fewest 125 = .ok (.if_icmp .ne 7, 3) := by decide +kernel
theorem dX6_fewest_128 : decode cX6_fewest 128 = .ok (.iconst 1, 1) := by decide +kernel
theorem dX6_fewest_129 : decode cX6_fewest 129 = .ok (.goto 4, 3) := by decide +kernel
theorem dX6_fewest_132 : decode cX6_fewest 132 = .ok (.iconst 0, 1) := by decide +kernel
theorem dX6_fewest_133 : decode cX6_fewest 133 = .ok (.istore 7, 2) := by decide +kernel
theorem dX6_fewest_135 : decode cX6_fewest 135 = .ok (.aload_n 0, 1) := by decide +kernel
theorem dX6_fewest_136 : decode cX6_fewest 136 = .ok (.invokevirtual 153, 3) := by decide +kernel
theorem dX6_fewest_139 : decode cX6_fewest 139 = .ok (.iload 7, 2) := by decide +kernel
theorem dX6_fewest_141 : decode cX6_fewest 141 = .ok (.ifCond .eq 28, 3) := by decide +kernel
theorem dX6_fewest_144 : decode cX6_fewest 144 = .ok (.iload 5, 2) := by decide +kernel
theorem dX6_fewest_146 : decode cX6_fewest 146 = .ok (.bipush (-4), 2) := by decide +kernel
theorem dX6_fewest_148 : decode cX6_fewest 148 = .ok (.if_icmp .eq 16, 3) := by decide +kernel
theorem dX6_fewest_151 : decode cX6_fewest 151 = .ok (.iload 6, 2) := by decide +kernel
theorem dX6_fewest_153 : decode cX6_fewest 153 = .ok (.invokestatic 162, 3) := by decide +kernel
theorem dX6_fewest_156 : decode cX6_fewest 156 = .ok (.iload 5, 2) := by decide +kernel
theorem dX6_fewest_158 : decode cX6_fewest 158 = .ok (.invokestatic 162, 3) := by decide +kernel
theorem dX6_fewest_161 : decode cX6_fewest 161 = .ok (.if_icmp .ge 8, 3) := by decide +kernel
theorem dX6_fewest_164 : decode cX6_fewest 164 = .ok (.iload 6, 2) := by decide +kernel
theorem dX6_fewest_166 : decode cX6_fewest 166 = .ok (.goto 5, 3) := by decide +kernel
theorem dX6_fewest_169 : decode cX6_fewest 169 = .ok (.iload 5, 2) := by decide +kernel
theorem dX6_fewest_171 : decode cX6_fewest 171 = .ok (.istore 5, 2) := by decide +kernel
theorem dX6_fewest_173 : decode cX6_fewest 173 = .ok (.iinc 6 1, 3) := by decide +kernel
theorem dX6_fewest_176 : decode cX6_fewest 176 = .ok (.goto (-165), 3) := by decide +kernel
theorem dX6_fewest_179 : decode cX6_fewest 179 = .ok (.iload 5, 2) := by decide +kernel
theorem dX6_fewest_181 : decode cX6_fewest 181 = .ok (.ireturn, 1) := by decide +kernel
set_option maxRecDepth 20000 in
theorem ggX6_likewise_X6_isNews : GoodIn wsX6_likewise wsX6_isNews := goodIn_r _ [6, 7, 8, 9, 5, 10, 58, 59, 60, 61, 62, 63, 64, 65, 66, 67, 68, 69, 70, 71, 72, 73, 74] (by decide +kernel) (by decide +kernel)
set_option maxRecDepth 20000 in
theorem gX6_likewise_X6_isNews : GoodIn wsX6_likewise (wsV RX6 116 RX6 yX6_isNews wsX6_isNews) := goodIn_app (goodIn_of _ (by decide +kernel)) ggX6_likewise_X6_isNews
set_option maxRecDepth 20000 in
theorem ggX6_likewise_X6_in : GoodIn wsX6_likewise wsX6_in := goodIn_r _ [10] (by decide +kernel) (by decide +kernel)
set_option maxRecDepth 20000 in
theorem gX6_likewise_X6_in : GoodIn wsX6_likewise (va_wsS RX6 63 yX6_in wsX6_in) := goodIn_app (goodIn_of _ (by decide +kernel)) ggX6_likewise_X6_in
set_option maxRecDepth 20000 in
theorem ggX6_likewise_X6_fewest : GoodIn wsX6_likewise wsX6_fewest := goodIn_r _ [14, 7, 1, 15, 16, 17, 5, 18, 19, 20, 21, 22, 23, 24, 25, 26, 27, 28, 29, 30, 31, 32, 33, 34, 35, 36, 37, 38, 39, 40, 41, 42, 43, 44, 45, 46, 47, 48, 49, 50, 51, 52, 53, 54, 55, 56, 57, 58, 59, 60, 61, 62, 63, 64, 65, 66, 67, 68, 69, 70, 71, 72, 73, 74] (by decide +kernel) (by decide +kernel)
set_option maxRecDepth 20000 in
theorem gX6_likewise_X6_fewest : GoodIn wsX6_likewise (wsV RX6 165 RX6 yX6_fewest wsX6_fewest) := goodIn_app (goodIn_of _ (by decide +kernel)) ggX6_likewise_X6_fewest
set_option maxRecDepth 20000 in
theorem ggX6_likewise_X6_ones : GoodIn wsX6_likewise wsX6_ones := goodIn_r _ [57] (by decide +kernel) (by decide +kernel)
set_option maxRecDepth 20000 in
theorem gX6_likewise_X6_ones : GoodIn wsX6_likewise (va_wsS RX6 162 yX6_ones wsX6_ones) := goodIn_app (goodIn_of _ (by decide +kernel)) ggX6_likewise_X6_ones
theorem dX6_likewise_0 : decode cX6_likewise 0 = .ok (.aload_n 0, 1) := by decide +kernel
theorem dX6_likewise_1 : decode cX6_likewise 1 = .ok (.iload_n 1, 1) := by decide +kernel
theorem dX6_likewise_2 : decode cX6_likewise 2 = .ok (.invokevirtual 116, 3) := by decide +kernel
theorem dX6_likewise_5 : decode cX6_likewise 5 = .ok (.ifCond .eq 22, 3) := by decide +kernel
theorem dX6_likewise_8 : decode cX6_likewise 8 = .ok (.iload_n 2, 1) := by decide +kernel
theorem dX6_likewise_9 : decode cX6_likewise 9 = .ok (.iconst 1, 1) := by decide +kernel
theorem dX6_likewise_10 : decode cX6_likewise 10 = .ok (.bipush 20, 2) := by decide +kernel
theorem dX6_likewise_12 : decode cX6_likewise 12 = .ok (.invokestatic 63, 3) := by decide +kernel
theorem dX6_likewise_15 : decode cX6_likewise 15 = .ok (.ifCond .eq 12, 3) := by decide +kernel
theorem dX6_likewise_18 : decode cX6_likewise 18 = .ok (.iload_n 3, 1) := by decide +kernel
theorem dX6_likewise_19 : decode cX6_likewise 19 = .ok (.iconst 0, 1) := by decide +kernel
theorem dX6_likewise_20 : decode cX6_likewise 20 = .ok (.iconst 1, 1) := by decide +kernel
theorem dX6_likewise_21 : decode cX6_likewise 21 = .ok (.invokestatic 63, 3) := by decide +kernel
theorem dX6_likewise_24 : decode cX6_likewise 24 = .ok (.ifCond .ne 5, 3) := by decide +kernel
theorem dX6_likewise_27 : decode cX6_likewise 27 = .ok (.iconst (-1), 1) := by decide +kernel
theorem dX6_likewise_28 : decode cX6_likewise 28 = .ok (.ireturn, 1) := by decide +kernel
theorem dX6_likewise_29 : decode cX6_likewise 29 = .ok (.aload_n 0, 1) := by decide +kernel
theorem dX6_likewise_30 : decode cX6_likewise 30 = .ok (.getfield 22, 3) := by decide +kernel
theorem dX6_likewise_33 : decode cX6_likewise 33 = .ok (.bipush 8, 2) := by decide +kernel
theorem dX6_likewise_35 : decode cX6_likewise 35 = .ok (.iload_n 1, 1) := by decide +kernel
theorem dX6_likewise_36 : decode cX6_likewise 36 = .ok (.iadd, 1) := by decide +kernel
theorem dX6_likewise_37 : decode cX6_likewise 37 = .ok (.iaload, 1) := by decide +kernel
theorem dX6_likewise_38 : decode cX6_likewise 38 = .ok (.bipush 9, 2) := by decide +kernel
theorem dX6_likewise_40 : decode cX6_likewise 40 = .ok (.if_icmp .ne 6, 3) := by decide +kernel
theorem dX6_likewise_43 : decode cX6_likewise 43 = .ok (.bipush (-2), 2) := by decide +kernel
theorem dX6_likewise_45 : decode cX6_likewise 45 = .ok (.ireturn, 1) := by decide +kernel
theorem dX6_likewise_46 : decode cX6_likewise 46 = .ok (.aload_n 0, 1) := by decide +kernel
theorem dX6_likewise_47 : decode cX6_likewise 47 = .ok (.iload_n 1, 1) := by decide +kernel
theorem dX6_likewise_48 : decode cX6_likewise 48 = .ok (.iload_n 2, 1) := by decide +kernel
theorem dX6_likewise_49 : decode cX6_likewise 49 = .ok (.iload 4, 2) := by decide +kernel
theorem dX6_likewise_51 : decode cX6_likewise 51 = .ok (.iload 5, 2) := by decide +kernel
theorem dX6_likewise_53 : decode cX6_likewise 53 = .ok (.invokevirtual 165, 3) := by decide +kernel
theorem dX6_likewise_56 : decode cX6_likewise 56 = .ok (.istore 6, 2) := by decide +kernel
theorem dX6_likewise_58 : decode cX6_likewise 58 = .ok (.iload 6, 2) := by decide +kernel
theorem dX6_likewise_60 : decode cX6_likewise 60 = .ok (.bipush (-4), 2) := by decide +kernel
theorem dX6_likewise_62 : decode cX6_likewise 62 = .ok (.if_icmp .eq 8, 3) := by decide +kernel
theorem dX6_likewise_65 : decode cX6_likewise 65 = .ok (.iload_n 3, 1) := by decide +kernel
theorem dX6_likewise_66 : decode cX6_likewise 66 = .ok (.iconst 1, 1) := by decide +kernel
theorem dX6_likewise_67 : decode cX6_likewise 67 = .ok (.if_icmp .ne 8, 3) := by decide +kernel
theorem dX6_likewise_70 : decode cX6_likewise 70 = .ok (.iload 6, 2) := by decide +kernel
theorem dX6_likewise_72 : decode cX6_likewise 72 = .ok (.goto 8, 3) := by decide +kernel
theorem dX6_likewise_75 : decode cX6_likewise 75 = .ok (.iload 6, 2) := by decide +kernel
theorem dX6_likewise_77 : decode cX6_likewise 77 = .ok (.invokestatic 162, 3) := by decide +kernel
theorem dX6_likewise_80 : decode cX6_likewise 80 = .ok (.ireturn, 1) := by decide +kernel
set_option maxRecDepth 20000 in
theorem ggX6_hush_X6_likewise : GoodIn wsX6_hush wsX6_likewise := goodIn_r _ [5, 6, 7, 8, 9, 4, 10, 11, 12, 13, 14, 15, 16, 17, 18, 19, 20, 21, 22, 23, 24, 25, 26, 27, 28, 29, 30, 31, 32, 33, 34, 35, 36, 37, 38, 39, 40, 41, 42, 43, 44, 45, 46, 47, 48, 49, 50, 51, 52, 53, 54, 55, 56, 57, 58, 59, 60, 61, 62, 63, 64, 65, 66, 67, 68, 69, 70, 71, 72, 73, 74, 75, 76, 77, 78] (by decide +kernel) (by decide +kernel)
set_option maxRecDepth 20000 in
theorem gX6_hush_X6_likewise : GoodIn wsX6_hush (wsV RX6 169 RX6 yX6_likewise wsX6_likewise) := goodIn_app (goodIn_of _ (by decide +kernel)) ggX6_hush_X6_likewise
theorem dX6_hush_0 : decode cX6_hush 0 = .ok (.aload_n 0, 1) := by decide +kernel
theorem dX6_hush_1 : decode cX6_hush 1 = .ok (.iload_n 1, 1) := by decide +kernel
theorem dX6_hush_2 : decode cX6_hush 2 = .ok (.iload_n 2, 1) := by decide +kernel
theorem dX6_hush_3 : decode cX6_hush 3 = .ok (.iload_n 3, 1) := by decide +kernel
theorem dX6_hush_4 : decode cX6_hush 4 = .ok (.bipush 9, 2) := by decide +kernel
theorem dX6_hush_6 : decode cX6_hush 6 = .ok (.iconst 0, 1) := by decide +kernel
theorem dX6_hush_7 : decode cX6_hush 7 = .ok (.invokevirtual 169, 3) := by decide +kernel
theorem dX6_hush_10 : decode cX6_hush 10 = .ok (.ireturn, 1) := by decide +kernel
set_option maxRecDepth 20000 in
theorem ggX6_loose_X6_likewise : GoodIn wsX6_loose wsX6_likewise := goodIn_r _ [5, 6, 7, 8, 9, 4, 10, 11, 12, 13, 14, 15, 16, 17, 18, 19, 20, 21, 22, 23, 24, 25, 26, 27, 28, 29, 30, 31, 32, 33, 34, 35, 36, 37, 38, 39, 40, 41, 42, 43, 44, 45, 46, 47, 48, 49, 50, 51, 52, 53, 54, 55, 56, 57, 58, 59, 60, 61, 62, 63, 64, 65, 66, 67, 68, 69, 70, 71, 72, 73, 74, 75, 76, 77, 78] (by decide +kernel) (by decide +kernel)
set_option maxRecDepth 20000 in
theorem gX6_loose_X6_likewise : GoodIn wsX6_loose (wsV RX6 169 RX6 yX6_likewise wsX6_likewise) := goodIn_app (goodIn_of _ (by decide +kernel)) ggX6_loose_X6_likewise
theorem dX6_loose_0 : decode cX6_loose 0 = .ok (.aload_n 0, 1) := by decide +kernel
theorem dX6_loose_1 : decode cX6_loose 1 = .ok (.iload_n 1, 1) := by decide +kernel
theorem dX6_loose_2 : decode cX6_loose 2 = .ok (.iload_n 2, 1) := by decide +kernel
theorem dX6_loose_3 : decode cX6_loose 3 = .ok (.iload_n 3, 1) := by decide +kernel
theorem dX6_loose_4 : decode cX6_loose 4 = .ok (.iconst 0, 1) := by decide +kernel
theorem dX6_loose_5 : decode cX6_loose 5 = .ok (.iconst 1, 1) := by decide +kernel
theorem dX6_loose_6 : decode cX6_loose 6 = .ok (.invokevirtual 169, 3) := by decide +kernel
theorem dX6_loose_9 : decode cX6_loose 9 = .ok (.ireturn, 1) := by decide +kernel
set_option maxRecDepth 20000 in
theorem ggX6_sooner_X6_isNews : GoodIn wsX6_sooner wsX6_isNews := goodIn_r _ [7, 2, 8, 9, 6, 10, 63, 64, 65, 66, 67, 68, 69, 70, 71, 72, 73, 74, 75, 76, 77, 78, 79] (by decide +kernel) (by decide +kernel)
set_option maxRecDepth 20000 in
theorem gX6_sooner_X6_isNews : GoodIn wsX6_sooner (wsV RX6 116 RX6 yX6_isNews wsX6_isNews) := goodIn_app (goodIn_of _ (by decide +kernel)) ggX6_sooner_X6_isNews
set_option maxRecDepth 20000 in
theorem ggX6_sooner_X6_in : GoodIn wsX6_sooner wsX6_in := goodIn_r _ [10] (by decide +kernel) (by decide +kernel)
set_option maxRecDepth 20000 in
theorem gX6_sooner_X6_in : GoodIn wsX6_sooner (va_wsS RX6 63 yX6_in wsX6_in) := goodIn_app (goodIn_of _ (by decide +kernel)) ggX6_sooner_X6_in
set_option maxRecDepth 20000 in
theorem ggX6_sooner_X6_comesIn : GoodIn wsX6_sooner wsX6_comesIn := goodIn_r _ [14, 15, 16, 17, 6, 18, 19, 1, 20, 21, 22, 23, 24, 25, 26, 27, 2, 28, 29, 30, 31, 32, 33, 34, 35, 36, 37, 38, 39, 40, 41, 42, 43, 44, 45, 46, 47, 48, 49, 50, 51, 52, 53, 54, 55, 56, 57, 58, 63, 64, 65, 66, 67, 68, 69, 70, 71, 72, 73, 74, 75, 76, 77, 78, 79] (by decide +kernel) (by decide +kernel)
set_option maxRecDepth 20000 in
theorem gX6_sooner_X6_comesIn : GoodIn wsX6_sooner (wsV RX6 159 RX6 yX6_comesIn wsX6_comesIn) := goodIn_app (goodIn_of _ (by decide +kernel)) ggX6_sooner_X6_comesIn
set_option maxRecDepth 20000 in
theorem ggX6_sooner_X6_changes : GoodIn wsX6_sooner wsX6_changes := goodIn_r _ [62, 1, 63, 64, 65, 66, 67, 68, 69, 70, 71, 72, 73, 74, 75, 76, 77, 78, 79] (by decide +kernel) (by decide +kernel)
set_option maxRecDepth 20000 in
theorem gX6_sooner_X6_changes : GoodIn wsX6_sooner (wsV RX6 147 RX6 yX6_changes wsX6_changes) := goodIn_app (goodIn_of _ (by decide +kernel)) ggX6_sooner_X6_changes
theorem dX6_sooner_0 : decode cX6_sooner 0 = .ok (.aload_n 0, 1) := by decide +kernel
theorem dX6_sooner_1 : decode cX6_sooner 1 = .ok (.iload_n 1, 1) := by decide +kernel
theorem dX6_sooner_2 : decode cX6_sooner 2 = .ok (.invokevirtual 116, 3) := by decide +kernel
theorem dX6_sooner_5 : decode cX6_sooner 5 = .ok (.ifCond .eq 12, 3) := by decide +kernel
theorem dX6_sooner_8 : decode cX6_sooner 8 = .ok (.iload_n 2, 1) := by decide +kernel
theorem dX6_sooner_9 : decode cX6_sooner 9 = .ok (.iconst 0, 1) := by decide +kernel
theorem dX6_sooner_10 : decode cX6_sooner 10 = .ok (.iconst 1, 1) := by decide +kernel
theorem dX6_sooner_11 : decode cX6_sooner 11 = .ok (.invokestatic 63, 3) := by decide +kernel
theorem dX6_sooner_14 : decode cX6_sooner 14 = .ok (.ifCond .ne 5, 3) := by decide +kernel
theorem dX6_sooner_17 : decode cX6_sooner 17 = .ok (.iconst (-1), 1) := by decide +kernel
theorem dX6_sooner_18 : decode cX6_sooner 18 = .ok (.ireturn, 1) := by decide +kernel
theorem dX6_sooner_19 : decode cX6_sooner 19 = .ok (.aload_n 0, 1) := by decide +kernel
theorem dX6_sooner_20 : decode cX6_sooner 20 = .ok (.getfield 22, 3) := by decide +kernel
theorem dX6_sooner_23 : decode cX6_sooner 23 = .ok (.bipush 8, 2) := by decide +kernel
theorem dX6_sooner_25 : decode cX6_sooner 25 = .ok (.iload_n 1, 1) := by decide +kernel
theorem dX6_sooner_26 : decode cX6_sooner 26 = .ok (.iadd, 1) := by decide +kernel
theorem dX6_sooner_27 : decode cX6_sooner 27 = .ok (.iaload, 1) := by decide +kernel
theorem dX6_sooner_28 : decode cX6_sooner 28 = .ok (.bipush 9, 2) := by decide +kernel
theorem dX6_sooner_30 : decode cX6_sooner 30 = .ok (.if_icmp .ne 6, 3) := by decide +kernel
theorem dX6_sooner_33 : decode cX6_sooner 33 = .ok (.bipush (-2), 2) := by decide +kernel
theorem dX6_sooner_35 : decode cX6_sooner 35 = .ok (.ireturn, 1) := by decide +kernel
theorem dX6_sooner_36 : decode cX6_sooner 36 = .ok (.aload_n 0, 1) := by decide +kernel
theorem dX6_sooner_37 : decode cX6_sooner 37 = .ok (.iload_n 1, 1) := by decide +kernel
theorem dX6_sooner_38 : decode cX6_sooner 38 = .ok (.invokevirtual 159, 3) := by decide +kernel
theorem dX6_sooner_41 : decode cX6_sooner 41 = .ok (.istore_n 3, 1) := by decide +kernel
theorem dX6_sooner_42 : decode cX6_sooner 42 = .ok (.iload_n 3, 1) := by decide +kernel
theorem dX6_sooner_43 : decode cX6_sooner 43 = .ok (.bipush (-4), 2) := by decide +kernel
theorem dX6_sooner_45 : decode cX6_sooner 45 = .ok (.if_icmp .ne 8, 3) := by decide +kernel
theorem dX6_sooner_48 : decode cX6_sooner 48 = .ok (.bipush 61, 2) := by decide +kernel
theorem dX6_sooner_50 : decode cX6_sooner 50 = .ok (.goto 4, 3) := by decide +kernel
theorem dX6_sooner_53 : decode cX6_sooner 53 = .ok (.iload_n 3, 1) := by decide +kernel
theorem dX6_sooner_54 : decode cX6_sooner 54 = .ok (.istore_n 3, 1) := by decide +kernel
theorem dX6_sooner_55 : decode cX6_sooner 55 = .ok (.bipush (-4), 2) := by decide +kernel
theorem dX6_sooner_57 : decode cX6_sooner 57 = .ok (.istore 4, 2) := by decide +kernel
theorem dX6_sooner_59 : decode cX6_sooner 59 = .ok (.iconst 0, 1) := by decide +kernel
theorem dX6_sooner_60 : decode cX6_sooner 60 = .ok (.istore 5, 2) := by decide +kernel
theorem dX6_sooner_62 : decode cX6_sooner 62 = .ok (.iload 5, 2) := by decide +kernel
theorem dX6_sooner_64 : decode cX6_sooner 64 = .ok (.aload_n 0, 1) := by decide +kernel
theorem dX6_sooner_65 : decode cX6_sooner 65 = .ok (.getfield 13, 3) := by decide +kernel
theorem dX6_sooner_68 : decode cX6_sooner 68 = .ok (.iconst 0, 1) := by decide +kernel
theorem dX6_sooner_69 : decode cX6_sooner 69 = .ok (.iaload, 1) := by decide +kernel
theorem dX6_sooner_70 : decode cX6_sooner 70 = .ok (.if_icmp .ge 81, 3) := by decide +kernel
theorem dX6_sooner_73 : decode cX6_sooner 73 = .ok (.iload 5, 2) := by decide +kernel
theorem dX6_sooner_75 : decode cX6_sooner 75 = .ok (.iconst 1, 1) := by decide +kernel
theorem dX6_sooner_76 : decode cX6_sooner 76 = .ok (.iadd, 1) := by decide +kernel
theorem dX6_sooner_77 : decode cX6_sooner 77 = .ok (.istore 6, 2) := by decide +kernel
theorem dX6_sooner_79 : decode cX6_sooner 79 = .ok (.iload 6, 2) := by decide +kernel
theorem dX6_sooner_81 : decode cX6_sooner 81 = .ok (.aload_n 0, 1) := by decide +kernel
theorem dX6_sooner_82 : decode cX6_sooner 82 = .ok (.getfield 13, 3) := by decide +kernel
theorem dX6_sooner_85 : decode cX6_sooner 85 = .ok (.iconst 0, 1) := by decide +kernel
theorem dX6_sooner_86 : decode cX6_sooner 86 = .ok (.iaload, 1) := by decide +kernel
theorem dX6_sooner_87 : decode cX6_sooner 87 = .ok (.if_icmp .ge 58, 3) := by decide +kernel
theorem dX6_sooner_90 : decode cX6_sooner 90 = .ok (.aload_n 0, 1) := by decide +kernel
theorem dX6_sooner_91 : decode cX6_sooner 91 = .ok (.iload 5, 2) := by decide +kernel
theorem dX6_sooner_93 : decode cX6_sooner 93 = .ok (.iload 6, 2) := by decide +kernel
theorem dX6_sooner_95 : decode cX6_sooner 95 = .ok (.invokevirtual 147, 3) := by decide +kernel
theorem dX6_sooner_98 : decode cX6_sooner 98 = .ok (.aload_n 0, 1) := by decide +kernel
theorem dX6_sooner_99 : decode cX6_sooner 99 = .ok (.iload_n 1, 1) := by decide +kernel
theorem dX6_sooner_100 : decode cX6_sooner 100 = .ok (.invokevirtual 159, 3) := by decide +kernel
theorem dX6_sooner_103 : decode cX6_sooner 103 = .ok (.istore 7, 2) := by decide +kernel
theorem dX6_sooner_105 : decode cX6_sooner 105 = .ok (.aload_n 0, 1) := by decide +kernel
theorem dX6_sooner_106 : decode cX6_sooner 106 = .ok (.iload 5, 2) := by decide +kernel
theorem dX6_sooner_108 : decode cX6_sooner 108 = .ok (.iload 6, 2) := by decide +kernel
theorem dX6_sooner_110 : decode cX6_sooner 110 = .ok (.invokevirtual 147, 3) := by decide +kernel
theorem dX6_sooner_113 : decode cX6_sooner 113 = .ok (.iload 7, 2) := by decide +kernel
theorem dX6_sooner_115 : decode cX6_sooner 115 = .ok (.bipush (-4), 2) := by decide +kernel
theorem dX6_sooner_117 : decode cX6_sooner 117 = .ok (.if_icmp .eq 22, 3) := by decide +kernel
theorem dX6_sooner_120 : decode cX6_sooner 120 = .ok (.iload 7, 2) := by decide +kernel
theorem dX6_sooner_122 : decode cX6_sooner 122 = .ok (.iload_n 3, 1) := by decide +kernel
theorem dX6_sooner_123 : decode cX6_sooner 123 = .ok (.if_icmp .ge 16, 3) := by decide +kernel
theorem dX6_sooner_126 : decode cX6_sooner 126 = .ok (.bipush 10, 2) := by decide +kernel
theorem dX6_sooner_128 : decode cX6_sooner 128 = .ok (.iload 5, 2) := by decide +kernel
theorem dX6_sooner_130 : decode cX6_sooner 130 = .ok (.imul, 1) := by decide +kernel
theorem dX6_sooner_131 : decode cX6_sooner 131 = .ok (.iload 6, 2) := by decide +kernel
theorem dX6_sooner_133 : decode cX6_sooner 133 = .ok (.iadd, 1) := by decide +kernel
theorem dX6_sooner_134 : decode cX6_sooner 134 = .ok (.istore 4, 2) := by decide +kernel
theorem dX6_sooner_136 : decode cX6_sooner 136 = .ok (.iload 7, 2) := by decide +kernel
theorem dX6_sooner_138 : decode cX6_sooner 138 = .ok (.istore_n 3, 1) := by decide +kernel
theorem dX6_sooner_139 : decode cX6_sooner 139 = .ok (.iinc 6 1, 3) := by decide +kernel
theorem dX6_sooner_142 : decode cX6_sooner 142 = .ok (.goto (-63), 3) := by decide +kernel
theorem dX6_sooner_145 : decode cX6_sooner 145 = .ok (.iinc 5 1, 3) := by decide +kernel
theorem dX6_sooner_148 : decode cX6_sooner 148 = .ok (.goto (-86), 3) := by decide +kernel
theorem dX6_sooner_151 : decode cX6_sooner 151 = .ok (.iload 4, 2) := by decide +kernel
theorem dX6_sooner_153 : decode cX6_sooner 153 = .ok (.bipush (-4), 2) := by decide +kernel
theorem dX6_sooner_155 : decode cX6_sooner 155 = .ok (.if_icmp .eq 7, 3) := by decide +kernel
theorem dX6_sooner_158 : decode cX6_sooner 158 = .ok (.iload_n 2, 1) := by decide +kernel
theorem dX6_sooner_159 : decode cX6_sooner 159 = .ok (.ifCond .ne 8, 3) := by decide +kernel
theorem dX6_sooner_162 : decode cX6_sooner 162 = .ok (.iload 4, 2) := by decide +kernel
theorem dX6_sooner_164 : decode cX6_sooner 164 = .ok (.goto 4, 3) := by decide +kernel
theorem dX6_sooner_167 : decode cX6_sooner 167 = .ok (.iload_n 3, 1) := by decide +kernel
theorem dX6_sooner_168 : decode cX6_sooner 168 = .ok (.ireturn, 1) := by decide +kernel
set_option maxRecDepth 20000 in
theorem ggX6_given_X6_doubts : GoodIn wsX6_given wsX6_doubts := goodIn_r _ [9, 3, 10, 11, 12, 13, 14, 15, 16, 17, 18, 19, 20, 21, 22, 23, 24, 25, 26] (by decide +kernel) (by decide +kernel)
set_option maxRecDepth 20000 in
theorem gX6_given_X6_doubts : GoodIn wsX6_given (wsV RX6 106 RX6 yX6_doubts wsX6_doubts) := goodIn_app (goodIn_of _ (by decide +kernel)) ggX6_given_X6_doubts
theorem dX6_given_0 : decode cX6_given 0 = .ok (.aload_n 0, 1) := by decide +kernel
theorem dX6_given_1 : decode cX6_given 1 = .ok (.getfield 13, 3) := by decide +kernel
theorem dX6_given_4 : decode cX6_given 4 = .ok (.iconst 0, 1) := by decide +kernel
theorem dX6_given_5 : decode cX6_given 5 = .ok (.iaload, 1) := by decide +kernel
theorem dX6_given_6 : decode cX6_given 6 = .ok (.istore_n 1, 1) := by decide +kernel
theorem dX6_given_7 : decode cX6_given 7 = .ok (.aload_n 0, 1) := by decide +kernel
theorem dX6_given_8 : decode cX6_given 8 = .ok (.getfield 13, 3) := by decide +kernel
theorem dX6_given_11 : decode cX6_given 11 = .ok (.iconst 1, 1) := by decide +kernel
theorem dX6_given_12 : decode cX6_given 12 = .ok (.iaload, 1) := by decide +kernel
theorem dX6_given_13 : decode cX6_given 13 = .ok (.istore_n 2, 1) := by decide +kernel
theorem dX6_given_14 : decode cX6_given 14 = .ok (.iconst (-1), 1) := by decide +kernel
theorem dX6_given_15 : decode cX6_given 15 = .ok (.istore_n 3, 1) := by decide +kernel
theorem dX6_given_16 : decode cX6_given 16 = .ok (.iconst 0, 1) := by decide +kernel
theorem dX6_given_17 : decode cX6_given 17 = .ok (.istore 4, 2) := by decide +kernel
theorem dX6_given_19 : decode cX6_given 19 = .ok (.aload_n 0, 1) := by decide +kernel
theorem dX6_given_20 : decode cX6_given 20 = .ok (.getfield 40, 3) := by decide +kernel
theorem dX6_given_23 : decode cX6_given 23 = .ok (.iconst 0, 1) := by decide +kernel
theorem dX6_given_24 : decode cX6_given 24 = .ok (.iconst (-1), 1) := by decide +kernel
theorem dX6_given_25 : decode cX6_given 25 = .ok (.iastore, 1) := by decide +kernel
theorem dX6_given_26 : decode cX6_given 26 = .ok (.iload 4, 2) := by decide +kernel
theorem dX6_given_28 : decode cX6_given 28 = .ok (.ifCond .lt 247, 3) := by decide +kernel
theorem dX6_given_31 : decode cX6_given 31 = .ok (.aload_n 0, 1) := by decide +kernel
theorem dX6_given_32 : decode cX6_given 32 = .ok (.getfield 40, 3) := by decide +kernel
theorem dX6_given_35 : decode cX6_given 35 = .ok (.iload 4, 2) := by decide +kernel
theorem dX6_given_37 : decode cX6_given 37 = .ok (.dup2, 1) := by decide +kernel
theorem dX6_given_38 : decode cX6_given 38 = .ok (.iaload, 1) := by decide +kernel
theorem dX6_given_39 : decode cX6_given 39 = .ok (.iconst 1, 1) := by decide +kernel
theorem dX6_given_40 : decode cX6_given 40 = .ok (.iadd, 1) := by decide +kernel
theorem dX6_given_41 : decode cX6_given 41 = .ok (.iastore, 1) := by decide +kernel
theorem dX6_given_42 : decode cX6_given 42 = .ok (.aload_n 0, 1) := by decide +kernel
theorem dX6_given_43 : decode cX6_given 43 = .ok (.getfield 40, 3) := by decide +kernel
theorem dX6_given_46 : decode cX6_given 46 = .ok (.iload 4, 2) := by decide +kernel
theorem dX6_given_48 : decode cX6_given 48 = .ok (.iaload, 1) := by decide +kernel
theorem dX6_given_49 : decode cX6_given 49 = .ok (.iload_n 1, 1) := by decide +kernel
theorem dX6_given_50 : decode cX6_given 50 = .ok (.if_icmp .le 9, 3) := by decide +kernel
theorem dX6_given_53 : decode cX6_given 53 = .ok (.iinc 4 (-1), 3) := by decide +kernel
theorem dX6_given_56 : decode cX6_given 56 = .ok (.goto (-30), 3) := by decide +kernel
theorem dX6_given_59 : decode cX6_given 59 = .ok (.aload_n 0, 1) := by decide +kernel
theorem dX6_given_60 : decode cX6_given 60 = .ok (.getfield 40, 3) := by decide +kernel
theorem dX6_given_63 : decode cX6_given 63 = .ok (.iload 4, 2) := by decide +kernel
theorem dX6_given_65 : decode cX6_given 65 = .ok (.iaload, 1) := by decide +kernel
theorem dX6_given_66 : decode cX6_given 66 = .ok (.istore 5, 2) := by decide +kernel
theorem dX6_given_68 : decode cX6_given 68 = .ok (.iload 5, 2) := by decide +kernel
theorem dX6_given_70 : decode cX6_given 70 = .ok (.iload_n 1, 1) := by decide +kernel
theorem dX6_given_71 : decode cX6_given 71 = .ok (.if_icmp .eq 29, 3) := by decide +kernel
theorem dX6_given_74 : decode cX6_given 74 = .ok (.aload_n 0, 1) := by decide +kernel
theorem dX6_given_75 : decode cX6_given 75 = .ok (.getfield 22, 3) := by decide +kernel
theorem dX6_given_78 : decode cX6_given 78 = .ok (.bipush 8, 2) := by decide +kernel
theorem dX6_given_80 : decode cX6_given 80 = .ok (.iload 4, 2) := by decide +kernel
theorem dX6_given_82 : decode cX6_given 82 = .ok (.iadd, 1) := by decide +kernel
theorem dX6_given_83 : decode cX6_given 83 = .ok (.iaload, 1) := by decide +kernel
theorem dX6_given_84 : decode cX6_given 84 = .ok (.bipush 9, 2) := by decide +kernel
theorem dX6_given_86 : decode cX6_given 86 = .ok (.if_icmp .eq 18, 3) := by decide +kernel
theorem dX6_given_89 : decode cX6_given 89 = .ok (.aload_n 0, 1) := by decide +kernel
theorem dX6_given_90 : decode cX6_given 90 = .ok (.iload 5, 2) := by decide +kernel
theorem dX6_given_92 : decode cX6_given 92 = .ok (.iload 4, 2) := by decide +kernel
theorem dX6_given_94 : decode cX6_given 94 = .ok (.invokevirtual 106, 3) := by decide +kernel
theorem dX6_given_97 : decode cX6_given 97 = .ok (.ifCond .eq 7, 3) := by decide +kernel
theorem dX6_given_100 : decode cX6_given 100 = .ok (.iconst 1, 1) := by decide +kernel
theorem dX6_given_101 : decode cX6_given 101 = .ok (.goto 4, 3) := by decide +kernel
theorem dX6_given_104 : decode cX6_given 104 = .ok (.iconst 0, 1) := by decide +kernel
theorem dX6_given_105 : decode cX6_given 105 = .ok (.istore 6, 2) := by decide +kernel
theorem dX6_given_107 : decode cX6_given 107 = .ok (.iconst 0, 1) := by decide +kernel
theorem dX6_given_108 : decode cX6_given 108 = .ok (.istore 7, 2) := by decide +kernel
theorem dX6_given_110 : decode cX6_given 110 = .ok (.iload 7, 2) := by decide +kernel
theorem dX6_given_112 : decode cX6_given 112 = .ok (.iload 4, 2) := by decide +kernel
theorem dX6_given_114 : decode cX6_given 114 = .ok (.if_icmp .ge 39, 3) := by decide +kernel
theorem dX6_given_117 : decode cX6_given 117 = .ok (.iload 6, 2) := by decide +kernel
theorem dX6_given_119 : decode cX6_given 119 = .ok (.ifCond .eq 25, 3) := by decide +kernel
theorem dX6_given_122 : decode cX6_given 122 = .ok (.iload 5, 2) := by decide +kernel
theorem dX6_given_124 : decode cX6_given 124 = .ok (.iload_n 1, 1) := by decide +kernel
theorem dX6_given_125 : decode cX6_given 125 = .ok (.if_icmp .eq 15, 3) := by decide +kernel
theorem dX6_given_128 : decode cX6_given 128 = .ok (.aload_n 0, 1) := by decide +kernel
theorem dX6_given_129 : decode cX6_given 129 = .ok (.getfield 40, 3) := by decide +kernel
theorem dX6_given_132 : decode cX6_given 132 = .ok (.iload 7, 2) := by decide +kernel
theorem dX6_given_134 : decode cX6_given 134 = .ok (.iaload, 1) := by decide +kernel
theorem dX6_given_135 : decode cX6_given 135 = .ok (.iload 5, 2) := by decide +kernel
theorem dX6_given_137 : decode cX6_given 137 = .ok (.if_icmp .eq 7, 3) := by decide +kernel
theorem dX6_given_140 : decode cX6_given 140 = .ok (.iconst 1, 1) := by decide +kernel
theorem dX6_given_141 : decode cX6_given 141 = .ok (.goto 4, 3) := by decide +kernel
theorem dX6_given_144 : decode cX6_given 144 = .ok (.iconst 0, 1) := by decide +kernel
theorem dX6_given_145 : decode cX6_given 145 = .ok (.istore 6, 2) := by decide +kernel
theorem dX6_given_147 : decode cX6_given 147 = .ok (.iinc 7 1, 3) := by decide +kernel
theorem dX6_given_150 : decode cX6_given 150 = .ok (.goto (-40), 3) := by decide +kernel
theorem dX6_given_153 : decode cX6_given 153 = .ok (.iload 6, 2) := by decide +kernel
theorem dX6_given_155 : decode cX6_given 155 = .ok (.ifCond .eq 101, 3) := by decide +kernel
theorem dX6_given_158 : decode cX6_given 158 = .ok (.iload 4, 2) := by decide +kernel
theorem dX6_given_160 : decode cX6_given 160 = .ok (.iload_n 2, 1) := by decide +kernel
theorem dX6_given_161 : decode cX6_given 161 = .ok (.iconst 1, 1) := by decide +kernel
theorem dX6_given_162 : decode cX6_given 162 = .ok (.isub, 1) := by decide +kernel
theorem dX6_given_163 : decode cX6_given 163 = .ok (.if_icmp .ne 93, 3) := by decide +kernel
theorem dX6_given_166 : decode cX6_given 166 = .ok (.iconst 0, 1) := by decide +kernel
theorem dX6_given_167 : decode cX6_given 167 = .ok (.istore 7, 2) := by decide +kernel
theorem dX6_given_169 : decode cX6_given 169 = .ok (.iconst 0, 1) := by decide +kernel
theorem dX6_given_170 : decode cX6_given 170 = .ok (.istore 8, 2) := by decide +kernel
theorem dX6_given_172 : decode cX6_given 172 = .ok (.iload 8, 2) := by decide +kernel
theorem dX6_given_174 : decode cX6_given 174 = .ok (.iload_n 2, 1) := by decide +kernel
theorem dX6_given_175 : decode cX6_given 175 = .ok (.if_icmp .ge 30, 3) := by decide +kernel
theorem dX6_given_178 : decode cX6_given 178 = .ok (.iload 7, 2) := by decide +kernel
theorem dX6_given_180 : decode cX6_given 180 = .ok (.aload_n 0, 1) := by decide +kernel
theorem dX6_given_181 : decode cX6_given 181 = .ok (.getfield 40, 3) := by decide +kernel
theorem dX6_given_184 : decode cX6_given 184 = .ok (.iload 8, 2) := by decide +kernel
theorem dX6_given_186 : decode cX6_given 186 = .ok (.iaload, 1) := by decide +kernel
theorem dX6_given_187 : decode cX6_given 187 = .ok (.iload_n 1, 1) := by decide +kernel
theorem dX6_given_188 : decode cX6_given 188 = .ok (.if_icmp .ne 7, 3) := by decide +kernel
theorem dX6_given_191 : decode cX6_given 191 = .ok (.iconst 0, 1) := by decide +kernel
theorem dX6_given_192 : decode cX6_given 192 = .ok (.goto 4, 3) := by decide +kernel
theorem dX6_given_195 : decode cX6_given 195 = .ok (.iconst 1, 1) := by decide +kernel
theorem dX6_given_196 : decode cX6_given 196 = .ok (.iadd, 1) := by decide +kernel
theorem dX6_given_197 : decode cX6_given 197 = .ok (.istore 7, 2) := by decide +kernel
theorem dX6_given_199 : decode cX6_given 199 = .ok (.iinc 8 1, 3) := by decide +kernel
theorem dX6_given_202 : decode cX6_given 202 = .ok (.goto (-30), 3) := by decide +kernel
theorem dX6_given_205 : decode cX6_given 205 = .ok (.iconst 0, 1) := by decide +kernel
theorem dX6_given_206 : decode cX6_given 206 = .ok (.istore 8, 2) := by decide +kernel
theorem dX6_given_208 : decode cX6_given 208 = .ok (.iload 8, 2) := by decide +kernel
theorem dX6_given_210 : decode cX6_given 210 = .ok (.iload_n 2, 1) := by decide +kernel
theorem dX6_given_211 : decode cX6_given 211 = .ok (.if_icmp .ge 29, 3) := by decide +kernel
theorem dX6_given_214 : decode cX6_given 214 = .ok (.iload 7, 2) := by decide +kernel
theorem dX6_given_216 : decode cX6_given 216 = .ok (.iload_n 3, 1) := by decide +kernel
theorem dX6_given_217 : decode cX6_given 217 = .ok (.if_icmp .le 23, 3) := by decide +kernel
theorem dX6_given_220 : decode cX6_given 220 = .ok (.aload_n 0, 1) := by decide +kernel
theorem dX6_given_221 : decode cX6_given 221 = .ok (.getfield 43, 3) := by decide +kernel
theorem dX6_given_224 : decode cX6_given 224 = .ok (.iload 8, 2) := by decide +kernel
theorem dX6_given_226 : decode cX6_given 226 = .ok (.aload_n 0, 1) := by decide +kernel
theorem dX6_given_227 : decode cX6_given 227 = .ok (.getfield 40, 3) := by decide +kernel
theorem dX6_given_230 : decode cX6_given 230 = .ok (.iload 8, 2) := by decide +kernel
theorem dX6_given_232 : decode cX6_given 232 = .ok (.iaload, 1) := by decide +kernel
theorem dX6_given_233 : decode cX6_given 233 = .ok (.iastore, 1) := by decide +kernel
theorem dX6_given_234 : decode cX6_given 234 = .ok (.iinc 8 1, 3) := by decide +kernel
theorem dX6_given_237 : decode cX6_given 237 = .ok (.goto (-29), 3) := by decide +kernel
theorem dX6_given_240 : decode cX6_given 240 = .ok (.iload 7, 2) := by decide +kernel
theorem dX6_given_242 : decode cX6_given 242 = .ok (.iload_n 3, 1) := by decide +kernel
theorem dX6_given_243 : decode cX6_given 243 = .ok (.if_icmp .le 8, 3) := by decide +kernel
theorem dX6_given_246 : decode cX6_given 246 = .ok (.iload 7, 2) := by decide +kernel
theorem dX6_given_248 : decode cX6_given 248 = .ok (.goto 4, 3) := by decide +kernel
theorem dX6_given_251 : decode cX6_given 251 = .ok (.iload_n 3, 1) := by decide +kernel
theorem dX6_given_252 : decode cX6_given 252 = .ok (.istore_n 3, 1) := by decide +kernel
theorem dX6_given_253 : decode cX6_given 253 = .ok (.goto 19, 3) := by decide +kernel
theorem dX6_given_256 : decode cX6_given 256 = .ok (.iload 6, 2) := by decide +kernel
theorem dX6_given_258 : decode cX6_given 258 = .ok (.ifCond .eq 14, 3) := by decide +kernel
theorem dX6_given_261 : decode cX6_given 261 = .ok (.iinc 4 1, 3) := by decide +kernel
theorem dX6_given_264 : decode cX6_given 264 = .ok (.aload_n 0, 1) := by decide +kernel
theorem dX6_given_265 : decode cX6_given 265 = .ok (.getfield 40, 3) := by decide +kernel
theorem dX6_given_268 : decode cX6_given 268 = .ok (.iload 4, 2) := by decide +kernel
theorem dX6_given_270 : decode cX6_given 270 = .ok (.iconst (-1), 1) := by decide +kernel
theorem dX6_given_271 : decode cX6_given 271 = .ok (.iastore, 1) := by decide +kernel
theorem dX6_given_272 : decode cX6_given 272 = .ok (.goto (-246), 3) := by decide +kernel
theorem dX6_given_275 : decode cX6_given 275 = .ok (.iload_n 3, 1) := by decide +kernel
theorem dX6_given_276 : decode cX6_given 276 = .ok (.ireturn, 1) := by decide +kernel
set_option maxRecDepth 20000 in
theorem ggX6_offices_X6_isNews : GoodIn wsX6_offices wsX6_isNews := goodIn_r _ [7, 2, 8, 9, 6, 10, 21, 22, 23, 24, 25, 26, 27, 28, 29, 30, 31, 32, 33, 34, 35, 36, 37] (by decide +kernel) (by decide +kernel)
set_option maxRecDepth 20000 in
theorem gX6_offices_X6_isNews : GoodIn wsX6_offices (wsV RX6 116 RX6 yX6_isNews wsX6_isNews) := goodIn_app (goodIn_of _ (by decide +kernel)) ggX6_offices_X6_isNews
set_option maxRecDepth 20000 in
theorem ggX6_offices_X6_given : GoodIn wsX6_offices wsX6_given := goodIn_r _ [14, 2, 15, 16, 1, 17, 18, 19, 6, 20, 21, 22, 23, 24, 25, 26, 27, 28, 29, 30, 31, 32, 33, 34, 35, 36, 37] (by decide +kernel) (by decide +kernel)
set_option maxRecDepth 20000 in
theorem gX6_offices_X6_given : GoodIn wsX6_offices (wsV RX6 173 RX6 yX6_given wsX6_given) := goodIn_app (goodIn_of _ (by decide +kernel)) ggX6_offices_X6_given
theorem dX6_offices_0 : decode cX6_offices 0 = .ok (.iload_n 1, 1) := by decide +kernel
theorem dX6_offices_1 : decode cX6_offices 1 = .ok (.iconst (-1), 1) := by decide +kernel
theorem dX6_offices_2 : decode cX6_offices 2 = .ok (.if_icmp .eq 13, 3) := by decide +kernel
theorem dX6_offices_5 : decode cX6_offices 5 = .ok (.aload_n 0, 1) := by decide +kernel
theorem dX6_offices_6 : decode cX6_offices 6 = .ok (.iload_n 1, 1) := by decide +kernel
theorem dX6_offices_7 : decode cX6_offices 7 = .ok (.invokevirtual 116, 3) := by decide +kernel
theorem dX6_offices_10 : decode cX6_offices 10 = .ok (.ifCond .ne 5, 3) := by decide +kernel
theorem dX6_offices_13 : decode cX6_offices 13 = .ok (.iconst (-1), 1) := by decide +kernel
theorem dX6_offices_14 : decode cX6_offices 14 = .ok (.ireturn, 1) := by decide +kernel
theorem dX6_offices_15 : decode cX6_offices 15 = .ok (.aload_n 0, 1) := by decide +kernel
theorem dX6_offices_16 : decode cX6_offices 16 = .ok (.invokevirtual 173, 3) := by decide +kernel
theorem dX6_offices_19 : decode cX6_offices 19 = .ok (.istore_n 2, 1) := by decide +kernel
theorem dX6_offices_20 : decode cX6_offices 20 = .ok (.iload_n 1, 1) := by decide +kernel
theorem dX6_offices_21 : decode cX6_offices 21 = .ok (.iconst (-1), 1) := by decide +kernel
theorem dX6_offices_22 : decode cX6_offices 22 = .ok (.if_icmp .ne 7, 3) := by decide +kernel
theorem dX6_offices_25 : decode cX6_offices 25 = .ok (.iload_n 2, 1) := by decide +kernel
theorem dX6_offices_26 : decode cX6_offices 26 = .ok (.goto 29, 3) := by decide +kernel
theorem dX6_offices_29 : decode cX6_offices 29 = .ok (.aload_n 0, 1) := by decide +kernel
theorem dX6_offices_30 : decode cX6_offices 30 = .ok (.getfield 43, 3) := by decide +kernel
theorem dX6_offices_33 : decode cX6_offices 33 = .ok (.iload_n 1, 1) := by decide +kernel
theorem dX6_offices_34 : decode cX6_offices 34 = .ok (.iaload, 1) := by decide +kernel
theorem dX6_offices_35 : decode cX6_offices 35 = .ok (.aload_n 0, 1) := by decide +kernel
theorem dX6_offices_36 : decode cX6_offices 36 = .ok (.getfield 13, 3) := by decide +kernel
theorem dX6_offices_39 : decode cX6_offices 39 = .ok (.iconst 0, 1) := by decide +kernel
theorem dX6_offices_40 : decode cX6_offices 40 = .ok (.iaload, 1) := by decide +kernel
theorem dX6_offices_41 : decode cX6_offices 41 = .ok (.if_icmp .ne 8, 3) := by decide +kernel
theorem dX6_offices_44 : decode cX6_offices 44 = .ok (.bipush (-4), 2) := by decide +kernel
theorem dX6_offices_46 : decode cX6_offices 46 = .ok (.goto 9, 3) := by decide +kernel
theorem dX6_offices_49 : decode cX6_offices 49 = .ok (.aload_n 0, 1) := by decide +kernel
theorem dX6_offices_50 : decode cX6_offices 50 = .ok (.getfield 43, 3) := by decide +kernel
theorem dX6_offices_53 : decode cX6_offices 53 = .ok (.iload_n 1, 1) := by decide +kernel
theorem dX6_offices_54 : decode cX6_offices 54 = .ok (.iaload, 1) := by decide +kernel
theorem dX6_offices_55 : decode cX6_offices 55 = .ok (.ireturn, 1) := by decide +kernel
set_option maxRecDepth 20000 in
theorem ggX6_mute_X6_doubters : GoodIn wsX6_mute wsX6_doubters := goodIn_r _ [7, 1, 8, 9, 10, 6, 11, 2, 12, 13, 14, 15, 16, 17, 18, 19, 20, 21, 22, 23, 24, 25, 26, 27, 28] (by decide +kernel) (by decide +kernel)
set_option maxRecDepth 20000 in
theorem gX6_mute_X6_doubters : GoodIn wsX6_mute (wsV RX6 119 RX6 yX6_doubters wsX6_doubters) := goodIn_app (goodIn_of _ (by decide +kernel)) ggX6_mute_X6_doubters
theorem dX6_mute_0 : decode cX6_mute 0 = .ok (.iconst 0, 1) := by decide +kernel
theorem dX6_mute_1 : decode cX6_mute 1 = .ok (.istore_n 1, 1) := by decide +kernel
theorem dX6_mute_2 : decode cX6_mute 2 = .ok (.iconst 0, 1) := by decide +kernel
theorem dX6_mute_3 : decode cX6_mute 3 = .ok (.istore_n 2, 1) := by decide +kernel
theorem dX6_mute_4 : decode cX6_mute 4 = .ok (.iload_n 2, 1) := by decide +kernel
theorem dX6_mute_5 : decode cX6_mute 5 = .ok (.aload_n 0, 1) := by decide +kernel
theorem dX6_mute_6 : decode cX6_mute 6 = .ok (.getfield 13, 3) := by decide +kernel
theorem dX6_mute_9 : decode cX6_mute 9 = .ok (.iconst 1, 1) := by decide +kernel
theorem dX6_mute_10 : decode cX6_mute 10 = .ok (.iaload, 1) := by decide +kernel
theorem dX6_mute_11 : decode cX6_mute 11 = .ok (.if_icmp .ge 41, 3) := by decide +kernel
theorem dX6_mute_14 : decode cX6_mute 14 = .ok (.iload_n 1, 1) := by decide +kernel
theorem dX6_mute_15 : decode cX6_mute 15 = .ok (.aload_n 0, 1) := by decide +kernel
theorem dX6_mute_16 : decode cX6_mute 16 = .ok (.getfield 22, 3) := by decide +kernel
theorem dX6_mute_19 : decode cX6_mute 19 = .ok (.bipush 8, 2) := by decide +kernel
theorem dX6_mute_21 : decode cX6_mute 21 = .ok (.iload_n 2, 1) := by decide +kernel
theorem dX6_mute_22 : decode cX6_mute 22 = .ok (.iadd, 1) := by decide +kernel
theorem dX6_mute_23 : decode cX6_mute 23 = .ok (.iaload, 1) := by decide +kernel
theorem dX6_mute_24 : decode cX6_mute 24 = .ok (.bipush 9, 2) := by decide +kernel
theorem dX6_mute_26 : decode cX6_mute 26 = .ok (.if_icmp .eq 17, 3) := by decide +kernel
theorem dX6_mute_29 : decode cX6_mute 29 = .ok (.aload_n 0, 1) := by decide +kernel
theorem dX6_mute_30 : decode cX6_mute 30 = .ok (.iload_n 2, 1) := by decide +kernel
theorem dX6_mute_31 : decode cX6_mute 31 = .ok (.invokevirtual 119, 3) := by decide +kernel
theorem dX6_mute_34 : decode cX6_mute 34 = .ok (.ifCond .ne 9, 3) := by decide +kernel
theorem dX6_mute_37 : decode cX6_mute 37 = .ok (.iconst 1, 1) := by decide +kernel
theorem dX6_mute_38 : decode cX6_mute 38 = .ok (.iload_n 2, 1) := by decide +kernel
theorem dX6_mute_39 : decode cX6_mute 39 = .ok (.ishl, 1) := by decide +kernel
theorem dX6_mute_40 : decode cX6_mute 40 = .ok (.goto 4, 3) := by decide +kernel
theorem dX6_mute_43 : decode cX6_mute 43 = .ok (.iconst 0, 1) := by decide +kernel
theorem dX6_mute_44 : decode cX6_mute 44 = .ok (.ior, 1) := by decide +kernel
theorem dX6_mute_45 : decode cX6_mute 45 = .ok (.istore_n 1, 1) := by decide +kernel
theorem dX6_mute_46 : decode cX6_mute 46 = .ok (.iinc 2 1, 3) := by decide +kernel
theorem dX6_mute_49 : decode cX6_mute 49 = .ok (.goto (-45), 3) := by decide +kernel
theorem dX6_mute_52 : decode cX6_mute 52 = .ok (.iload_n 1, 1) := by decide +kernel
theorem dX6_mute_53 : decode cX6_mute 53 = .ok (.ireturn, 1) := by decide +kernel
set_option maxRecDepth 20000 in
theorem ggX6_see_X6_isCourtier : GoodIn wsX6_see wsX6_isCourtier := goodIn_r _ [7, 8, 9, 10, 6, 11, 12, 13, 14, 15, 16, 17, 18, 19, 20, 21, 22, 23, 24, 25, 26, 27, 28] (by decide +kernel) (by decide +kernel)
set_option maxRecDepth 20000 in
theorem gX6_see_X6_isCourtier : GoodIn wsX6_see (wsV RX6 110 RX6 yX6_isCourtier wsX6_isCourtier) := goodIn_app (goodIn_of _ (by decide +kernel)) ggX6_see_X6_isCourtier
set_option maxRecDepth 20000 in
theorem ggX6_see_X6_in : GoodIn wsX6_see wsX6_in := goodIn_r _ [11] (by decide +kernel) (by decide +kernel)
set_option maxRecDepth 20000 in
theorem gX6_see_X6_in : GoodIn wsX6_see (va_wsS RX6 63 yX6_in wsX6_in) := goodIn_app (goodIn_of _ (by decide +kernel)) ggX6_see_X6_in
theorem dX6_see_0 : decode cX6_see 0 = .ok (.iload_n 1, 1) := by decide +kernel
theorem dX6_see_1 : decode cX6_see 1 = .ok (.bipush 9, 2) := by decide +kernel
theorem dX6_see_3 : decode cX6_see 3 = .ok (.if_icmp .eq 11, 3) := by decide +kernel
theorem dX6_see_6 : decode cX6_see 6 = .ok (.aload_n 0, 1) := by decide +kernel
theorem dX6_see_7 : decode cX6_see 7 = .ok (.iload_n 1, 1) := by decide +kernel
theorem dX6_see_8 : decode cX6_see 8 = .ok (.invokevirtual 110, 3) := by decide +kernel
theorem dX6_see_11 : decode cX6_see 11 = .ok (.ifCond .eq 13, 3) := by decide +kernel
theorem dX6_see_14 : decode cX6_see 14 = .ok (.iload_n 2, 1) := by decide +kernel
theorem dX6_see_15 : decode cX6_see 15 = .ok (.iconst 0, 1) := by decide +kernel
theorem dX6_see_16 : decode cX6_see 16 = .ok (.bipush 20, 2) := by decide +kernel
theorem dX6_see_18 : decode cX6_see 18 = .ok (.invokestatic 63, 3) := by decide +kernel
theorem dX6_see_21 : decode cX6_see 21 = .ok (.ifCond .ne 5, 3) := by decide +kernel
theorem dX6_see_24 : decode cX6_see 24 = .ok (.iconst (-1), 1) := by decide +kernel
theorem dX6_see_25 : decode cX6_see 25 = .ok (.ireturn, 1) := by decide +kernel
theorem dX6_see_26 : decode cX6_see 26 = .ok (.aload_n 0, 1) := by decide +kernel
theorem dX6_see_27 : decode cX6_see 27 = .ok (.getfield 103, 3) := by decide +kernel
theorem dX6_see_30 : decode cX6_see 30 = .ok (.bipush 6, 2) := by decide +kernel
theorem dX6_see_32 : decode cX6_see 32 = .ok (.if_icmp .ne 6, 3) := by decide +kernel
theorem dX6_see_35 : decode cX6_see 35 = .ok (.bipush (-3), 2) := by decide +kernel
theorem dX6_see_37 : decode cX6_see 37 = .ok (.ireturn, 1) := by decide +kernel
theorem dX6_see_38 : decode cX6_see 38 = .ok (.aload_n 0, 1) := by decide +kernel
theorem dX6_see_39 : decode cX6_see 39 = .ok (.getfield 31, 3) := by decide +kernel
theorem dX6_see_42 : decode cX6_see 42 = .ok (.iconst 2, 1) := by decide +kernel
theorem dX6_see_43 : decode cX6_see 43 = .ok (.aload_n 0, 1) := by decide +kernel
theorem dX6_see_44 : decode cX6_see 44 = .ok (.getfield 103, 3) := by decide +kernel
theorem dX6_see_47 : decode cX6_see 47 = .ok (.imul, 1) := by decide +kernel
theorem dX6_see_48 : decode cX6_see 48 = .ok (.iload_n 1, 1) := by decide +kernel
theorem dX6_see_49 : decode cX6_see 49 = .ok (.iastore, 1) := by decide +kernel
theorem dX6_see_50 : decode cX6_see 50 = .ok (.aload_n 0, 1) := by decide +kernel
theorem dX6_see_51 : decode cX6_see 51 = .ok (.getfield 31, 3) := by decide +kernel
theorem dX6_see_54 : decode cX6_see 54 = .ok (.iconst 2, 1) := by decide +kernel
theorem dX6_see_55 : decode cX6_see 55 = .ok (.aload_n 0, 1) := by decide +kernel
theorem dX6_see_56 : decode cX6_see 56 = .ok (.getfield 103, 3) := by decide +kernel
theorem dX6_see_59 : decode cX6_see 59 = .ok (.imul, 1) := by decide +kernel
theorem dX6_see_60 : decode cX6_see 60 = .ok (.iconst 1, 1) := by decide +kernel
theorem dX6_see_61 : decode cX6_see 61 = .ok (.iadd, 1) := by decide +kernel
theorem dX6_see_62 : decode cX6_see 62 = .ok (.iload_n 2, 1) := by decide +kernel
theorem dX6_see_63 : decode cX6_see 63 = .ok (.iastore, 1) := by decide +kernel
theorem dX6_see_64 : decode cX6_see 64 = .ok (.aload_n 0, 1) := by decide +kernel
theorem dX6_see_65 : decode cX6_see 65 = .ok (.dup, 1) := by decide +kernel
theorem dX6_see_66 : decode cX6_see 66 = .ok (.getfield 103, 3) := by decide +kernel
theorem dX6_see_69 : decode cX6_see 69 = .ok (.iconst 1, 1) := by decide +kernel
theorem dX6_see_70 : decode cX6_see 70 = .ok (.iadd, 1) := by decide +kernel
theorem dX6_see_71 : decode cX6_see 71 = .ok (.putfield 103, 3) := by decide +kernel
theorem dX6_see_74 : decode cX6_see 74 = .ok (.aload_n 0, 1) := by decide +kernel
theorem dX6_see_75 : decode cX6_see 75 = .ok (.getfield 103, 3) := by decide +kernel
theorem dX6_see_78 : decode cX6_see 78 = .ok (.ireturn, 1) := by decide +kernel
theorem dX6_forget_0 : decode cX6_forget 0 = .ok (.aload_n 0, 1) := by decide +kernel
theorem dX6_forget_1 : decode cX6_forget 1 = .ok (.getfield 103, 3) := by decide +kernel
theorem dX6_forget_4 : decode cX6_forget 4 = .ok (.istore_n 1, 1) := by decide +kernel
theorem dX6_forget_5 : decode cX6_forget 5 = .ok (.aload_n 0, 1) := by decide +kernel
theorem dX6_forget_6 : decode cX6_forget 6 = .ok (.iconst 0, 1) := by decide +kernel
theorem dX6_forget_7 : decode cX6_forget 7 = .ok (.putfield 103, 3) := by decide +kernel
theorem dX6_forget_10 : decode cX6_forget 10 = .ok (.iload_n 1, 1) := by decide +kernel
theorem dX6_forget_11 : decode cX6_forget 11 = .ok (.ireturn, 1) := by decide +kernel
set_option maxRecDepth 20000 in
theorem ggX6_whichNow_X6_holds : GoodIn wsX6_whichNow wsX6_holds := goodIn_r _ [9, 10, 4, 46, 47, 48, 49, 50, 51, 52, 53, 54, 55, 56, 57, 58, 59, 60, 61, 62] (by decide +kernel) (by decide +kernel)
set_option maxRecDepth 20000 in
theorem gX6_whichNow_X6_holds : GoodIn wsX6_whichNow (wsV RX6 150 RX6 yX6_holds wsX6_holds) := goodIn_app (goodIn_of _ (by decide +kernel)) ggX6_whichNow_X6_holds
set_option maxRecDepth 20000 in
theorem ggX6_whichNow_X6_passes : GoodIn wsX6_whichNow wsX6_passes := goodIn_r _ [14, 1, 4, 15, 16, 17, 18, 8, 19, 20, 21, 22, 23, 24, 25, 26, 27, 28, 29, 30, 31, 32, 33, 34, 35, 36, 37, 38, 39, 40, 41, 46, 47, 48, 49, 50, 51, 52, 53, 54, 55, 56, 57, 58, 59, 60, 61, 62] (by decide +kernel) (by decide +kernel)
set_option maxRecDepth 20000 in
theorem gX6_whichNow_X6_passes : GoodIn wsX6_whichNow (wsV RX6 141 RX6 yX6_passes wsX6_passes) := goodIn_app (goodIn_of _ (by decide +kernel)) ggX6_whichNow_X6_passes
set_option maxRecDepth 20000 in
theorem ggX6_whichNow_X6_lets : GoodIn wsX6_whichNow wsX6_lets := goodIn_r _ [45, 4, 10, 46, 47, 48, 49, 50, 51, 52, 53, 54, 55, 56, 57, 58, 59, 60, 61, 62] (by decide +kernel) (by decide +kernel)
set_option maxRecDepth 20000 in
theorem gX6_whichNow_X6_lets : GoodIn wsX6_whichNow (wsV RX6 153 RX6 yX6_lets wsX6_lets) := goodIn_app (goodIn_of _ (by decide +kernel)) ggX6_whichNow_X6_lets
theorem dX6_whichNow_0 : decode cX6_whichNow 0 = .ok (.aload_n 0, 1) := by decide +kernel
theorem dX6_whichNow_1 : decode cX6_whichNow 1 = .ok (.invokevirtual 150, 3) := by decide +kernel
theorem dX6_whichNow_4 : decode cX6_whichNow 4 = .ok (.iconst 1, 1) := by decide +kernel
theorem dX6_whichNow_5 : decode cX6_whichNow 5 = .ok (.aload_n 0, 1) := by decide +kernel
theorem dX6_whichNow_6 : decode cX6_whichNow 6 = .ok (.getfield 13, 3) := by decide +kernel
theorem dX6_whichNow_9 : decode cX6_whichNow 9 = .ok (.iconst 1, 1) := by decide +kernel
theorem dX6_whichNow_10 : decode cX6_whichNow 10 = .ok (.iaload, 1) := by decide +kernel
theorem dX6_whichNow_11 : decode cX6_whichNow 11 = .ok (.ishl, 1) := by decide +kernel
theorem dX6_whichNow_12 : decode cX6_whichNow 12 = .ok (.iconst 1, 1) := by decide +kernel
theorem dX6_whichNow_13 : decode cX6_whichNow 13 = .ok (.isub, 1) := by decide +kernel
theorem dX6_whichNow_14 : decode cX6_whichNow 14 = .ok (.istore_n 1, 1) := by decide +kernel
theorem dX6_whichNow_15 : decode cX6_whichNow 15 = .ok (.iconst 0, 1) := by decide +kernel
theorem dX6_whichNow_16 : decode cX6_whichNow 16 = .ok (.istore_n 2, 1) := by decide +kernel
theorem dX6_whichNow_17 : decode cX6_whichNow 17 = .ok (.iload_n 2, 1) := by decide +kernel
theorem dX6_whichNow_18 : decode cX6_whichNow 18 = .ok (.bipush 20, 2) := by decide +kernel
theorem dX6_whichNow_20 : decode cX6_whichNow 20 = .ok (.if_icmp .gt 97, 3) := by decide +kernel
theorem dX6_whichNow_23 : decode cX6_whichNow 23 = .ok (.iconst 0, 1) := by decide +kernel
theorem dX6_whichNow_24 : decode cX6_whichNow 24 = .ok (.istore_n 3, 1) := by decide +kernel
theorem dX6_whichNow_25 : decode cX6_whichNow 25 = .ok (.iload_n 3, 1) := by decide +kernel
theorem dX6_whichNow_26 : decode cX6_whichNow 26 = .ok (.aload_n 0, 1) := by decide +kernel
theorem dX6_whichNow_27 : decode cX6_whichNow 27 = .ok (.getfield 13, 3) := by decide +kernel
theorem dX6_whichNow_30 : decode cX6_whichNow 30 = .ok (.iconst 1, 1) := by decide +kernel
theorem dX6_whichNow_31 : decode cX6_whichNow 31 = .ok (.iaload, 1) := by decide +kernel
theorem dX6_whichNow_32 : decode cX6_whichNow 32 = .ok (.if_icmp .ge 75, 3) := by decide +kernel
theorem dX6_whichNow_35 : decode cX6_whichNow 35 = .ok (.iconst 0, 1) := by decide +kernel
theorem dX6_whichNow_36 : decode cX6_whichNow 36 = .ok (.istore 4, 2) := by decide +kernel
theorem dX6_whichNow_38 : decode cX6_whichNow 38 = .ok (.iload 4, 2) := by decide +kernel
theorem dX6_whichNow_40 : decode cX6_whichNow 40 = .ok (.aload_n 0, 1) := by decide +kernel
theorem dX6_whichNow_41 : decode cX6_whichNow 41 = .ok (.getfield 103, 3) := by decide +kernel
theorem dX6_whichNow_44 : decode cX6_whichNow 44 = .ok (.if_icmp .ge 57, 3) := by decide +kernel
theorem dX6_whichNow_47 : decode cX6_whichNow 47 = .ok (.iload_n 1, 1) := by decide +kernel
theorem dX6_whichNow_48 : decode cX6_whichNow 48 = .ok (.aload_n 0, 1) := by decide +kernel
theorem dX6_whichNow_49 : decode cX6_whichNow 49 = .ok (.getfield 31, 3) := by decide +kernel
theorem dX6_whichNow_52 : decode cX6_whichNow 52 = .ok (.iconst 2, 1) := by decide +kernel
theorem dX6_whichNow_53 : decode cX6_whichNow 53 = .ok (.iload 4, 2) := by decide +kernel
theorem dX6_whichNow_55 : decode cX6_whichNow 55 = .ok (.imul, 1) := by decide +kernel
theorem dX6_whichNow_56 : decode cX6_whichNow 56 = .ok (.iconst 1, 1) := by decide +kernel
theorem dX6_whichNow_57 : decode cX6_whichNow 57 = .ok (.iadd, 1) := by decide +kernel
theorem dX6_whichNow_58 : decode cX6_whichNow 58 = .ok (.iaload, 1) := by decide +kernel
theorem dX6_whichNow_59 : decode cX6_whichNow 59 = .ok (.iload_n 2, 1) := by decide +kernel
theorem dX6_whichNow_60 : decode cX6_whichNow 60 = .ok (.if_icmp .ne 32, 3) := by decide +kernel
theorem dX6_whichNow_63 : decode cX6_whichNow 63 = .ok (.aload_n 0, 1) := by decide +kernel
theorem dX6_whichNow_64 : decode cX6_whichNow 64 = .ok (.getfield 22, 3) := by decide +kernel
theorem dX6_whichNow_67 : decode cX6_whichNow 67 = .ok (.bipush 8, 2) := by decide +kernel
theorem dX6_whichNow_69 : decode cX6_whichNow 69 = .ok (.iload_n 3, 1) := by decide +kernel
theorem dX6_whichNow_70 : decode cX6_whichNow 70 = .ok (.iadd, 1) := by decide +kernel
theorem dX6_whichNow_71 : decode cX6_whichNow 71 = .ok (.iaload, 1) := by decide +kernel
theorem dX6_whichNow_72 : decode cX6_whichNow 72 = .ok (.aload_n 0, 1) := by decide +kernel
theorem dX6_whichNow_73 : decode cX6_whichNow 73 = .ok (.getfield 31, 3) := by decide +kernel
theorem dX6_whichNow_76 : decode cX6_whichNow 76 = .ok (.iconst 2, 1) := by decide +kernel
theorem dX6_whichNow_77 : decode cX6_whichNow 77 = .ok (.iload 4, 2) := by decide +kernel
theorem dX6_whichNow_79 : decode cX6_whichNow 79 = .ok (.imul, 1) := by decide +kernel
theorem dX6_whichNow_80 : decode cX6_whichNow 80 = .ok (.iaload, 1) := by decide +kernel
theorem dX6_whichNow_81 : decode cX6_whichNow 81 = .ok (.if_icmp .eq 11, 3) := by decide +kernel
theorem dX6_whichNow_84 : decode cX6_whichNow 84 = .ok (.iconst 1, 1) := by decide +kernel
theorem dX6_whichNow_85 : decode cX6_whichNow 85 = .ok (.iload_n 3, 1) := by decide +kernel
theorem dX6_whichNow_86 : decode cX6_whichNow 86 = .ok (.ishl, 1) := by decide +kernel
theorem dX6_whichNow_87 : decode cX6_whichNow 87 = .ok (.iconst (-1), 1) := by decide +kernel
theorem dX6_whichNow_88 : decode cX6_whichNow 88 = .ok (.ixor, 1) := by decide +kernel
theorem dX6_whichNow_89 : decode cX6_whichNow 89 = .ok (.goto 4, 3) := by decide +kernel
theorem dX6_whichNow_92 : decode cX6_whichNow 92 = .ok (.iconst (-1), 1) := by decide +kernel
theorem dX6_whichNow_93 : decode cX6_whichNow 93 = .ok (.iand, 1) := by decide +kernel
theorem dX6_whichNow_94 : decode cX6_whichNow 94 = .ok (.istore_n 1, 1) := by decide +kernel
theorem dX6_whichNow_95 : decode cX6_whichNow 95 = .ok (.iinc 4 1, 3) := by decide +kernel
theorem dX6_whichNow_98 : decode cX6_whichNow 98 = .ok (.goto (-60), 3) := by decide +kernel
theorem dX6_whichNow_101 : decode cX6_whichNow 101 = .ok (.iinc 3 1, 3) := by decide +kernel
theorem dX6_whichNow_104 : decode cX6_whichNow 104 = .ok (.goto (-79), 3) := by decide +kernel
theorem dX6_whichNow_107 : decode cX6_whichNow 107 = .ok (.aload_n 0, 1) := by decide +kernel
theorem dX6_whichNow_108 : decode cX6_whichNow 108 = .ok (.invokevirtual 141, 3) := by decide +kernel
theorem dX6_whichNow_111 : decode cX6_whichNow 111 = .ok (.iinc 2 1, 3) := by decide +kernel
theorem dX6_whichNow_114 : decode cX6_whichNow 114 = .ok (.goto (-97), 3) := by decide +kernel
theorem dX6_whichNow_117 : decode cX6_whichNow 117 = .ok (.aload_n 0, 1) := by decide +kernel
theorem dX6_whichNow_118 : decode cX6_whichNow 118 = .ok (.invokevirtual 153, 3) := by decide +kernel
theorem dX6_whichNow_121 : decode cX6_whichNow 121 = .ok (.iload_n 1, 1) := by decide +kernel
theorem dX6_whichNow_122 : decode cX6_whichNow 122 = .ok (.ireturn, 1) := by decide +kernel
set_option maxRecDepth 20000 in
theorem ggX6_which_X6_whichNow : GoodIn wsX6_which wsX6_whichNow := goodIn_r _ [5, 6, 7, 8, 9, 10, 11, 12, 4, 13, 14, 15, 16, 17, 18, 19, 20, 21, 22, 23, 24, 25, 26, 27, 28, 29, 30, 31, 32, 33, 34, 35, 36, 37, 38, 39, 40, 41, 42, 43, 44, 45, 46, 47, 48, 49, 50, 51, 52, 53, 54, 55, 56, 57, 58, 59, 60, 61, 62, 63, 64, 65, 66] (by decide +kernel) (by decide +kernel)
set_option maxRecDepth 20000 in
theorem gX6_which_X6_whichNow : GoodIn wsX6_which (wsV RX6 176 RX6 yX6_whichNow wsX6_whichNow) := goodIn_app (goodIn_of _ (by decide +kernel)) ggX6_which_X6_whichNow
theorem dX6_which_0 : decode cX6_which 0 = .ok (.aload_n 0, 1) := by decide +kernel
theorem dX6_which_1 : decode cX6_which 1 = .ok (.invokevirtual 176, 3) := by decide +kernel
theorem dX6_which_4 : decode cX6_which 4 = .ok (.ireturn, 1) := by decide +kernel
set_option maxRecDepth 20000 in
theorem ggX6_kinds_X6_isCourtier : GoodIn wsX6_kinds wsX6_isCourtier := goodIn_r _ [6, 1, 7, 8, 5, 9, 61, 62, 63, 64, 65, 66, 67, 68, 69, 70, 71, 72, 73, 74, 75, 76, 77] (by decide +kernel) (by decide +kernel)
set_option maxRecDepth 20000 in
theorem gX6_kinds_X6_isCourtier : GoodIn wsX6_kinds (wsV RX6 110 RX6 yX6_isCourtier wsX6_isCourtier) := goodIn_app (goodIn_of _ (by decide +kernel)) ggX6_kinds_X6_isCourtier
set_option maxRecDepth 20000 in
theorem ggX6_kinds_X6_isNews : GoodIn wsX6_kinds wsX6_isNews := goodIn_r _ [13, 1, 7, 8, 5, 9, 61, 62, 63, 64, 65, 66, 67, 68, 69, 70, 71, 72, 73, 74, 75, 76, 77] (by decide +kernel) (by decide +kernel)
set_option maxRecDepth 20000 in
theorem gX6_kinds_X6_isNews : GoodIn wsX6_kinds (wsV RX6 116 RX6 yX6_isNews wsX6_isNews) := goodIn_app (goodIn_of _ (by decide +kernel)) ggX6_kinds_X6_isNews
set_option maxRecDepth 20000 in
theorem ggX6_kinds_X6_whichNow : GoodIn wsX6_kinds wsX6_whichNow := goodIn_r _ [17, 1, 18, 19, 20, 21, 22, 23, 5, 24, 25, 26, 27, 28, 29, 30, 31, 32, 33, 34, 35, 36, 37, 38, 39, 40, 41, 42, 43, 44, 45, 46, 47, 48, 49, 50, 51, 52, 53, 54, 55, 56, 57, 58, 59, 60, 61, 62, 63, 64, 65, 66, 67, 68, 69, 70, 71, 72, 73, 74, 75, 76, 77] (by decide +kernel) (by decide +kernel)
set_option maxRecDepth 20000 in
theorem gX6_kinds_X6_whichNow : GoodIn wsX6_kinds (wsV RX6 176 RX6 yX6_whichNow wsX6_whichNow) := goodIn_app (goodIn_of _ (by decide +kernel)) ggX6_kinds_X6_whichNow
theorem dX6_kinds_0 : decode cX6_kinds 0 = .ok (.aload_n 0, 1) := by decide +kernel
theorem dX6_kinds_1 : decode cX6_kinds 1 = .ok (.iload_n 1, 1) := by decide +kernel
theorem dX6_kinds_2 : decode cX6_kinds 2 = .ok (.invokevirtual 110, 3) := by decide +kernel
theorem dX6_kinds_5 : decode cX6_kinds 5 = .ok (.ifCond .eq 11, 3) := by decide +kernel
theorem dX6_kinds_8 : decode cX6_kinds 8 = .ok (.aload_n 0, 1) := by decide +kernel
theorem dX6_kinds_9 : decode cX6_kinds 9 = .ok (.iload_n 2, 1) := by decide +kernel
theorem dX6_kinds_10 : decode cX6_kinds 10 = .ok (.invokevirtual 116, 3) := by decide +kernel
theorem dX6_kinds_13 : decode cX6_kinds 13 = .ok (.ifCond .ne 5, 3) := by decide +kernel
theorem dX6_kinds_16 : decode cX6_kinds 16 = .ok (.iconst (-1), 1) := by decide +kernel
theorem dX6_kinds_17 : decode cX6_kinds 17 = .ok (.ireturn, 1) := by decide +kernel
theorem dX6_kinds_18 : decode cX6_kinds 18 = .ok (.aload_n 0, 1) := by decide +kernel
theorem dX6_kinds_19 : decode cX6_kinds 19 = .ok (.getfield 13, 3) := by decide +kernel
theorem dX6_kinds_22 : decode cX6_kinds 22 = .ok (.iconst 2, 1) := by decide +kernel
theorem dX6_kinds_23 : decode cX6_kinds 23 = .ok (.iload_n 1, 1) := by decide +kernel
theorem dX6_kinds_24 : decode cX6_kinds 24 = .ok (.iadd, 1) := by decide +kernel
theorem dX6_kinds_25 : decode cX6_kinds 25 = .ok (.iaload, 1) := by decide +kernel
theorem dX6_kinds_26 : decode cX6_kinds 26 = .ok (.istore_n 3, 1) := by decide +kernel
theorem dX6_kinds_27 : decode cX6_kinds 27 = .ok (.iconst 0, 1) := by decide +kernel
theorem dX6_kinds_28 : decode cX6_kinds 28 = .ok (.istore 4, 2) := by decide +kernel
theorem dX6_kinds_30 : decode cX6_kinds 30 = .ok (.iconst 0, 1) := by decide +kernel
theorem dX6_kinds_31 : decode cX6_kinds 31 = .ok (.istore 5, 2) := by decide +kernel
theorem dX6_kinds_33 : decode cX6_kinds 33 = .ok (.iload 5, 2) := by decide +kernel
theorem dX6_kinds_35 : decode cX6_kinds 35 = .ok (.iconst 3, 1) := by decide +kernel
theorem dX6_kinds_36 : decode cX6_kinds 36 = .ok (.if_icmp .gt 35, 3) := by decide +kernel
theorem dX6_kinds_39 : decode cX6_kinds 39 = .ok (.aload_n 0, 1) := by decide +kernel
theorem dX6_kinds_40 : decode cX6_kinds 40 = .ok (.getfield 13, 3) := by decide +kernel
theorem dX6_kinds_43 : decode cX6_kinds 43 = .ok (.iconst 2, 1) := by decide +kernel
theorem dX6_kinds_44 : decode cX6_kinds 44 = .ok (.iload_n 1, 1) := by decide +kernel
theorem dX6_kinds_45 : decode cX6_kinds 45 = .ok (.iadd, 1) := by decide +kernel
theorem dX6_kinds_46 : decode cX6_kinds 46 = .ok (.iload 5, 2) := by decide +kernel
theorem dX6_kinds_48 : decode cX6_kinds 48 = .ok (.iastore, 1) := by decide +kernel
theorem dX6_kinds_49 : decode cX6_kinds 49 = .ok (.iload 4, 2) := by decide +kernel
theorem dX6_kinds_51 : decode cX6_kinds 51 = .ok (.aload_n 0, 1) := by decide +kernel
theorem dX6_kinds_52 : decode cX6_kinds 52 = .ok (.invokevirtual 176, 3) := by decide +kernel
theorem dX6_kinds_55 : decode cX6_kinds 55 = .ok (.iload_n 2, 1) := by decide +kernel
theorem dX6_kinds_56 : decode cX6_kinds 56 = .ok (.ishr, 1) := by decide +kernel
theorem dX6_kinds_57 : decode cX6_kinds 57 = .ok (.iconst 1, 1) := by decide +kernel
theorem dX6_kinds_58 : decode cX6_kinds 58 = .ok (.iand, 1) := by decide +kernel
theorem dX6_kinds_59 : decode cX6_kinds 59 = .ok (.iload 5, 2) := by decide +kernel
theorem dX6_kinds_61 : decode cX6_kinds 61 = .ok (.ishl, 1) := by decide +kernel
theorem dX6_kinds_62 : decode cX6_kinds 62 = .ok (.ior, 1) := by decide +kernel
theorem dX6_kinds_63 : decode cX6_kinds 63 = .ok (.istore 4, 2) := by decide +kernel
theorem dX6_kinds_65 : decode cX6_kinds 65 = .ok (.iinc 5 1, 3) := by decide +kernel
theorem dX6_kinds_68 : decode cX6_kinds 68 = .ok (.goto (-35), 3) := by decide +kernel
theorem dX6_kinds_71 : decode cX6_kinds 71 = .ok (.aload_n 0, 1) := by decide +kernel
theorem dX6_kinds_72 : decode cX6_kinds 72 = .ok (.getfield 13, 3) := by decide +kernel
theorem dX6_kinds_75 : decode cX6_kinds 75 = .ok (.iconst 2, 1) := by decide +kernel
theorem dX6_kinds_76 : decode cX6_kinds 76 = .ok (.iload_n 1, 1) := by decide +kernel
theorem dX6_kinds_77 : decode cX6_kinds 77 = .ok (.iadd, 1) := by decide +kernel
theorem dX6_kinds_78 : decode cX6_kinds 78 = .ok (.iload_n 3, 1) := by decide +kernel
theorem dX6_kinds_79 : decode cX6_kinds 79 = .ok (.iastore, 1) := by decide +kernel
theorem dX6_kinds_80 : decode cX6_kinds 80 = .ok (.iload 4, 2) := by decide +kernel
theorem dX6_kinds_82 : decode cX6_kinds 82 = .ok (.ireturn, 1) := by decide +kernel
set_option maxRecDepth 20000 in
theorem ggX6_slips_X6_whoAt : GoodIn wsX6_slips wsX6_whoAt := goodIn_r _ [7, 1, 2, 8, 9, 10, 11, 12, 13, 14, 15, 16, 17, 18, 19, 20, 21, 22, 23, 24] (by decide +kernel) (by decide +kernel)
set_option maxRecDepth 20000 in
theorem gX6_slips_X6_whoAt : GoodIn wsX6_slips (wsV RX6 122 RX6 yX6_whoAt wsX6_whoAt) := goodIn_app (goodIn_of _ (by decide +kernel)) ggX6_slips_X6_whoAt
theorem dX6_slips_0 : decode cX6_slips 0 = .ok (.iconst 0, 1) := by decide +kernel
theorem dX6_slips_1 : decode cX6_slips 1 = .ok (.istore_n 1, 1) := by decide +kernel
theorem dX6_slips_2 : decode cX6_slips 2 = .ok (.iconst 0, 1) := by decide +kernel
theorem dX6_slips_3 : decode cX6_slips 3 = .ok (.istore_n 2, 1) := by decide +kernel
theorem dX6_slips_4 : decode cX6_slips 4 = .ok (.iload_n 2, 1) := by decide +kernel
theorem dX6_slips_5 : decode cX6_slips 5 = .ok (.aload_n 0, 1) := by decide +kernel
theorem dX6_slips_6 : decode cX6_slips 6 = .ok (.getfield 13, 3) := by decide +kernel
theorem dX6_slips_9 : decode cX6_slips 9 = .ok (.iconst 1, 1) := by decide +kernel
theorem dX6_slips_10 : decode cX6_slips 10 = .ok (.iaload, 1) := by decide +kernel
theorem dX6_slips_11 : decode cX6_slips 11 = .ok (.if_icmp .ge 60, 3) := by decide +kernel
theorem dX6_slips_14 : decode cX6_slips 14 = .ok (.iload_n 1, 1) := by decide +kernel
theorem dX6_slips_15 : decode cX6_slips 15 = .ok (.ifCond .ne 56, 3) := by decide +kernel
theorem dX6_slips_18 : decode cX6_slips 18 = .ok (.aload_n 0, 1) := by decide +kernel
theorem dX6_slips_19 : decode cX6_slips 19 = .ok (.getfield 22, 3) := by decide +kernel
theorem dX6_slips_22 : decode cX6_slips 22 = .ok (.bipush 8, 2) := by decide +kernel
theorem dX6_slips_24 : decode cX6_slips 24 = .ok (.iload_n 2, 1) := by decide +kernel
theorem dX6_slips_25 : decode cX6_slips 25 = .ok (.iadd, 1) := by decide +kernel
theorem dX6_slips_26 : decode cX6_slips 26 = .ok (.iaload, 1) := by decide +kernel
theorem dX6_slips_27 : decode cX6_slips 27 = .ok (.bipush 9, 2) := by decide +kernel
theorem dX6_slips_29 : decode cX6_slips 29 = .ok (.if_icmp .eq 36, 3) := by decide +kernel
theorem dX6_slips_32 : decode cX6_slips 32 = .ok (.aload_n 0, 1) := by decide +kernel
theorem dX6_slips_33 : decode cX6_slips 33 = .ok (.getfield 22, 3) := by decide +kernel
theorem dX6_slips_36 : decode cX6_slips 36 = .ok (.bipush 8, 2) := by decide +kernel
theorem dX6_slips_38 : decode cX6_slips 38 = .ok (.iload_n 2, 1) := by decide +kernel
theorem dX6_slips_39 : decode cX6_slips 39 = .ok (.iadd, 1) := by decide +kernel
theorem dX6_slips_40 : decode cX6_slips 40 = .ok (.aload_n 0, 1) := by decide +kernel
theorem dX6_slips_41 : decode cX6_slips 41 = .ok (.aload_n 0, 1) := by decide +kernel
theorem dX6_slips_42 : decode cX6_slips 42 = .ok (.getfield 22, 3) := by decide +kernel
theorem dX6_slips_45 : decode cX6_slips 45 = .ok (.iconst 1, 1) := by decide +kernel
theorem dX6_slips_46 : decode cX6_slips 46 = .ok (.aload_n 0, 1) := by decide +kernel
theorem dX6_slips_47 : decode cX6_slips 47 = .ok (.getfield 22, 3) := by decide +kernel
theorem dX6_slips_50 : decode cX6_slips 50 = .ok (.bipush 8, 2) := by decide +kernel
theorem dX6_slips_52 : decode cX6_slips 52 = .ok (.iload_n 2, 1) := by decide +kernel
theorem dX6_slips_53 : decode cX6_slips 53 = .ok (.iadd, 1) := by decide +kernel
theorem dX6_slips_54 : decode cX6_slips 54 = .ok (.iaload, 1) := by decide +kernel
theorem dX6_slips_55 : decode cX6_slips 55 = .ok (.iadd, 1) := by decide +kernel
theorem dX6_slips_56 : decode cX6_slips 56 = .ok (.iaload, 1) := by decide +kernel
theorem dX6_slips_57 : decode cX6_slips 57 = .ok (.iconst 1, 1) := by decide +kernel
theorem dX6_slips_58 : decode cX6_slips 58 = .ok (.isub, 1) := by decide +kernel
theorem dX6_slips_59 : decode cX6_slips 59 = .ok (.invokevirtual 122, 3) := by decide +kernel
theorem dX6_slips_62 : decode cX6_slips 62 = .ok (.iastore, 1) := by decide +kernel
theorem dX6_slips_63 : decode cX6_slips 63 = .ok (.iconst 1, 1) := by decide +kernel
theorem dX6_slips_64 : decode cX6_slips 64 = .ok (.istore_n 1, 1) := by decide +kernel
theorem dX6_slips_65 : decode cX6_slips 65 = .ok (.iinc 2 1, 3) := by decide +kernel
theorem dX6_slips_68 : decode cX6_slips 68 = .ok (.goto (-64), 3) := by decide +kernel
theorem dX6_slips_71 : decode cX6_slips 71 = .ok (.return_, 1) := by decide +kernel
set_option maxRecDepth 20000 in
theorem ggX6_tongues_X6_isNews : GoodIn wsX6_tongues wsX6_isNews := goodIn_r _ [6, 7, 8, 9, 5, 10, 55, 56, 57, 58, 59, 60, 61, 62, 63, 64, 65, 66, 67, 68, 69, 70, 71] (by decide +kernel) (by decide +kernel)
set_option maxRecDepth 20000 in
theorem gX6_tongues_X6_isNews : GoodIn wsX6_tongues (wsV RX6 116 RX6 yX6_isNews wsX6_isNews) := goodIn_app (goodIn_of _ (by decide +kernel)) ggX6_tongues_X6_isNews
set_option maxRecDepth 20000 in
theorem ggX6_tongues_X6_in : GoodIn wsX6_tongues wsX6_in := goodIn_r _ [10] (by decide +kernel) (by decide +kernel)
set_option maxRecDepth 20000 in
theorem gX6_tongues_X6_in : GoodIn wsX6_tongues (va_wsS RX6 63 yX6_in wsX6_in) := goodIn_app (goodIn_of _ (by decide +kernel)) ggX6_tongues_X6_in
set_option maxRecDepth 20000 in
theorem ggX6_tongues_X6_holds : GoodIn wsX6_tongues wsX6_holds := goodIn_r _ [14, 15, 1, 55, 56, 57, 58, 59, 60, 61, 62, 63, 64, 65, 66, 67, 68, 69, 70, 71] (by decide +kernel) (by decide +kernel)
set_option maxRecDepth 20000 in
theorem gX6_tongues_X6_holds : GoodIn wsX6_tongues (wsV RX6 150 RX6 yX6_holds wsX6_holds) := goodIn_app (goodIn_of _ (by decide +kernel)) ggX6_tongues_X6_holds
set_option maxRecDepth 20000 in
theorem ggX6_tongues_X6_slips : GoodIn wsX6_tongues wsX6_slips := goodIn_r _ [19, 7, 1, 20, 21, 22, 5, 23, 55, 56, 57, 58, 59, 60, 61, 62, 63, 64, 65, 66, 67, 68, 69, 70, 71] (by decide +kernel) (by decide +kernel)
set_option maxRecDepth 20000 in
theorem gX6_tongues_X6_slips : GoodIn wsX6_tongues (wsV RX6 179 RX6 yX6_slips wsX6_slips) := goodIn_app (goodIn_of _ (by decide +kernel)) ggX6_tongues_X6_slips
set_option maxRecDepth 20000 in
theorem ggX6_tongues_X6_passes : GoodIn wsX6_tongues wsX6_passes := goodIn_r _ [27, 7, 1, 28, 29, 30, 31, 5, 32, 33, 34, 35, 36, 20, 21, 22, 23, 37, 38, 39, 40, 41, 42, 43, 44, 45, 46, 47, 48, 49, 50, 55, 56, 57, 58, 59, 60, 61, 62, 63, 64, 65, 66, 67, 68, 69, 70, 71] (by decide +kernel) (by decide +kernel)
set_option maxRecDepth 20000 in
theorem gX6_tongues_X6_passes : GoodIn wsX6_tongues (wsV RX6 141 RX6 yX6_passes wsX6_passes) := goodIn_app (goodIn_of _ (by decide +kernel)) ggX6_tongues_X6_passes
set_option maxRecDepth 20000 in
theorem ggX6_tongues_X6_lets : GoodIn wsX6_tongues wsX6_lets := goodIn_r _ [54, 1, 15, 55, 56, 57, 58, 59, 60, 61, 62, 63, 64, 65, 66, 67, 68, 69, 70, 71] (by decide +kernel) (by decide +kernel)
set_option maxRecDepth 20000 in
theorem gX6_tongues_X6_lets : GoodIn wsX6_tongues (wsV RX6 153 RX6 yX6_lets wsX6_lets) := goodIn_app (goodIn_of _ (by decide +kernel)) ggX6_tongues_X6_lets
theorem dX6_tongues_0 : decode cX6_tongues 0 = .ok (.aload_n 0, 1) := by decide +kernel
theorem dX6_tongues_1 : decode cX6_tongues 1 = .ok (.iload_n 1, 1) := by decide +kernel
theorem dX6_tongues_2 : decode cX6_tongues 2 = .ok (.invokevirtual 116, 3) := by decide +kernel
theorem dX6_tongues_5 : decode cX6_tongues 5 = .ok (.ifCond .eq 33, 3) := by decide +kernel
theorem dX6_tongues_8 : decode cX6_tongues 8 = .ok (.iload_n 2, 1) := by decide +kernel
theorem dX6_tongues_9 : decode cX6_tongues 9 = .ok (.iconst 0, 1) := by decide +kernel
theorem dX6_tongues_10 : decode cX6_tongues 10 = .ok (.bipush 8, 2) := by decide +kernel
theorem dX6_tongues_12 : decode cX6_tongues 12 = .ok (.invokestatic 63, 3) := by decide +kernel
theorem dX6_tongues_15 : decode cX6_tongues 15 = .ok (.ifCond .eq 23, 3) := by decide +kernel
theorem dX6_tongues_18 : decode cX6_tongues 18 = .ok (.iload_n 3, 1) := by decide +kernel
theorem dX6_tongues_19 : decode cX6_tongues 19 = .ok (.iconst 0, 1) := by decide +kernel
theorem dX6_tongues_20 : decode cX6_tongues 20 = .ok (.bipush 10, 2) := by decide +kernel
theorem dX6_tongues_22 : decode cX6_tongues 22 = .ok (.invokestatic 63, 3) := by decide +kernel
theorem dX6_tongues_25 : decode cX6_tongues 25 = .ok (.ifCond .eq 13, 3) := by decide +kernel
theorem dX6_tongues_28 : decode cX6_tongues 28 = .ok (.iload 4, 2) := by decide +kernel
theorem dX6_tongues_30 : decode cX6_tongues 30 = .ok (.iconst 0, 1) := by decide +kernel
theorem dX6_tongues_31 : decode cX6_tongues 31 = .ok (.iconst 1, 1) := by decide +kernel
theorem dX6_tongues_32 : decode cX6_tongues 32 = .ok (.invokestatic 63, 3) := by decide +kernel
theorem dX6_tongues_35 : decode cX6_tongues 35 = .ok (.ifCond .ne 5, 3) := by decide +kernel
theorem dX6_tongues_38 : decode cX6_tongues 38 = .ok (.iconst (-1), 1) := by decide +kernel
theorem dX6_tongues_39 : decode cX6_tongues 39 = .ok (.ireturn, 1) := by decide +kernel
theorem dX6_tongues_40 : decode cX6_tongues 40 = .ok (.aload_n 0, 1) := by decide +kernel
theorem dX6_tongues_41 : decode cX6_tongues 41 = .ok (.invokevirtual 150, 3) := by decide +kernel
theorem dX6_tongues_44 : decode cX6_tongues 44 = .ok (.iconst 0, 1) := by decide +kernel
theorem dX6_tongues_45 : decode cX6_tongues 45 = .ok (.istore 5, 2) := by decide +kernel
theorem dX6_tongues_47 : decode cX6_tongues 47 = .ok (.iconst 1, 1) := by decide +kernel
theorem dX6_tongues_48 : decode cX6_tongues 48 = .ok (.istore 6, 2) := by decide +kernel
theorem dX6_tongues_50 : decode cX6_tongues 50 = .ok (.iconst 0, 1) := by decide +kernel
theorem dX6_tongues_51 : decode cX6_tongues 51 = .ok (.istore 7, 2) := by decide +kernel
theorem dX6_tongues_53 : decode cX6_tongues 53 = .ok (.iload 7, 2) := by decide +kernel
theorem dX6_tongues_55 : decode cX6_tongues 55 = .ok (.iload_n 2, 1) := by decide +kernel
theorem dX6_tongues_56 : decode cX6_tongues 56 = .ok (.if_icmp .ge 16, 3) := by decide +kernel
theorem dX6_tongues_59 : decode cX6_tongues 59 = .ok (.iload 6, 2) := by decide +kernel
theorem dX6_tongues_61 : decode cX6_tongues 61 = .ok (.bipush 10, 2) := by decide +kernel
theorem dX6_tongues_63 : decode cX6_tongues 63 = .ok (.imul, 1) := by decide +kernel
theorem dX6_tongues_64 : decode cX6_tongues 64 = .ok (.istore 6, 2) := by decide +kernel
theorem dX6_tongues_66 : decode cX6_tongues 66 = .ok (.iinc 7 1, 3) := by decide +kernel
theorem dX6_tongues_69 : decode cX6_tongues 69 = .ok (.goto (-16), 3) := by decide +kernel
theorem dX6_tongues_72 : decode cX6_tongues 72 = .ok (.iconst 0, 1) := by decide +kernel
theorem dX6_tongues_73 : decode cX6_tongues 73 = .ok (.istore 7, 2) := by decide +kernel
theorem dX6_tongues_75 : decode cX6_tongues 75 = .ok (.iload 7, 2) := by decide +kernel
theorem dX6_tongues_77 : decode cX6_tongues 77 = .ok (.iconst 1, 1) := by decide +kernel
theorem dX6_tongues_78 : decode cX6_tongues 78 = .ok (.iload_n 2, 1) := by decide +kernel
theorem dX6_tongues_79 : decode cX6_tongues 79 = .ok (.ishl, 1) := by decide +kernel
theorem dX6_tongues_80 : decode cX6_tongues 80 = .ok (.if_icmp .ge 105, 3) := by decide +kernel
theorem dX6_tongues_83 : decode cX6_tongues 83 = .ok (.iconst 1, 1) := by decide +kernel
theorem dX6_tongues_84 : decode cX6_tongues 84 = .ok (.istore 8, 2) := by decide +kernel
theorem dX6_tongues_86 : decode cX6_tongues 86 = .ok (.iconst 0, 1) := by decide +kernel
theorem dX6_tongues_87 : decode cX6_tongues 87 = .ok (.istore 9, 2) := by decide +kernel
theorem dX6_tongues_89 : decode cX6_tongues 89 = .ok (.iload 9, 2) := by decide +kernel
theorem dX6_tongues_91 : decode cX6_tongues 91 = .ok (.iload_n 2, 1) := by decide +kernel
theorem dX6_tongues_92 : decode cX6_tongues 92 = .ok (.if_icmp .ge 58, 3) := by decide +kernel
theorem dX6_tongues_95 : decode cX6_tongues 95 = .ok (.iload 7, 2) := by decide +kernel
theorem dX6_tongues_97 : decode cX6_tongues 97 = .ok (.iload 9, 2) := by decide +kernel
theorem dX6_tongues_99 : decode cX6_tongues 99 = .ok (.ishr, 1) := by decide +kernel
theorem dX6_tongues_100 : decode cX6_tongues 100 = .ok (.iconst 1, 1) := by decide +kernel
theorem dX6_tongues_101 : decode cX6_tongues 101 = .ok (.iand, 1) := by decide +kernel
theorem dX6_tongues_102 : decode cX6_tongues 102 = .ok (.iconst 1, 1) := by decide +kernel
theorem dX6_tongues_103 : decode cX6_tongues 103 = .ok (.if_icmp .ne 7, 3) := by decide +kernel
theorem dX6_tongues_106 : decode cX6_tongues 106 = .ok (.iconst 1, 1) := by decide +kernel
theorem dX6_tongues_107 : decode cX6_tongues 107 = .ok (.goto 4, 3) := by decide +kernel
theorem dX6_tongues_110 : decode cX6_tongues 110 = .ok (.iconst 0, 1) := by decide +kernel
theorem dX6_tongues_111 : decode cX6_tongues 111 = .ok (.istore 10, 2) := by decide +kernel
theorem dX6_tongues_113 : decode cX6_tongues 113 = .ok (.iload 8, 2) := by decide +kernel
theorem dX6_tongues_115 : decode cX6_tongues 115 = .ok (.iload 10, 2) := by decide +kernel
theorem dX6_tongues_117 : decode cX6_tongues 117 = .ok (.ifCond .eq 7, 3) := by decide +kernel
theorem dX6_tongues_120 : decode cX6_tongues 120 = .ok (.iload_n 3, 1) := by decide +kernel
theorem dX6_tongues_121 : decode cX6_tongues 121 = .ok (.goto 7, 3) := by decide +kernel
theorem dX6_tongues_124 : decode cX6_tongues 124 = .ok (.bipush 10, 2) := by decide +kernel
theorem dX6_tongues_126 : decode cX6_tongues 126 = .ok (.iload_n 3, 1) := by decide +kernel
theorem dX6_tongues_127 : decode cX6_tongues 127 = .ok (.isub, 1) := by decide +kernel
theorem dX6_tongues_128 : decode cX6_tongues 128 = .ok (.imul, 1) := by decide +kernel
theorem dX6_tongues_129 : decode cX6_tongues 129 = .ok (.istore 8, 2) := by decide +kernel
theorem dX6_tongues_131 : decode cX6_tongues 131 = .ok (.iload 10, 2) := by decide +kernel
theorem dX6_tongues_133 : decode cX6_tongues 133 = .ok (.ifCond .eq 7, 3) := by decide +kernel
theorem dX6_tongues_136 : decode cX6_tongues 136 = .ok (.aload_n 0, 1) := by decide +kernel
theorem dX6_tongues_137 : decode cX6_tongues 137 = .ok (.invokevirtual 179, 3) := by decide +kernel
theorem dX6_tongues_140 : decode cX6_tongues 140 = .ok (.aload_n 0, 1) := by decide +kernel
theorem dX6_tongues_141 : decode cX6_tongues 141 = .ok (.invokevirtual 141, 3) := by decide +kernel
theorem dX6_tongues_144 : decode cX6_tongues 144 = .ok (.iinc 9 1, 3) := by decide +kernel
theorem dX6_tongues_147 : decode cX6_tongues 147 = .ok (.goto (-58), 3) := by decide +kernel
theorem dX6_tongues_150 : decode cX6_tongues 150 = .ok (.iload 5, 2) := by decide +kernel
theorem dX6_tongues_152 : decode cX6_tongues 152 = .ok (.aload_n 0, 1) := by decide +kernel
theorem dX6_tongues_153 : decode cX6_tongues 153 = .ok (.getfield 22, 3) := by decide +kernel
theorem dX6_tongues_156 : decode cX6_tongues 156 = .ok (.bipush 8, 2) := by decide +kernel
theorem dX6_tongues_158 : decode cX6_tongues 158 = .ok (.iload_n 1, 1) := by decide +kernel
theorem dX6_tongues_159 : decode cX6_tongues 159 = .ok (.iadd, 1) := by decide +kernel
theorem dX6_tongues_160 : decode cX6_tongues 160 = .ok (.iaload, 1) := by decide +kernel
theorem dX6_tongues_161 : decode cX6_tongues 161 = .ok (.bipush 9, 2) := by decide +kernel
theorem dX6_tongues_163 : decode cX6_tongues 163 = .ok (.if_icmp .ne 8, 3) := by decide +kernel
theorem dX6_tongues_166 : decode cX6_tongues 166 = .ok (.iload 8, 2) := by decide +kernel
theorem dX6_tongues_168 : decode cX6_tongues 168 = .ok (.goto 4, 3) := by decide +kernel
theorem dX6_tongues_171 : decode cX6_tongues 171 = .ok (.iconst 0, 1) := by decide +kernel
theorem dX6_tongues_172 : decode cX6_tongues 172 = .ok (.iadd, 1) := by decide +kernel
theorem dX6_tongues_173 : decode cX6_tongues 173 = .ok (.istore 5, 2) := by decide +kernel
theorem dX6_tongues_175 : decode cX6_tongues 175 = .ok (.aload_n 0, 1) := by decide +kernel
theorem dX6_tongues_176 : decode cX6_tongues 176 = .ok (.invokevirtual 153, 3) := by decide +kernel
theorem dX6_tongues_179 : decode cX6_tongues 179 = .ok (.iinc 7 1, 3) := by decide +kernel
theorem dX6_tongues_182 : decode cX6_tongues 182 = .ok (.goto (-107), 3) := by decide +kernel
theorem dX6_tongues_185 : decode cX6_tongues 185 = .ok (.iload 5, 2) := by decide +kernel
theorem dX6_tongues_187 : decode cX6_tongues 187 = .ok (.istore 7, 2) := by decide +kernel
theorem dX6_tongues_189 : decode cX6_tongues 189 = .ok (.iload 6, 2) := by decide +kernel
theorem dX6_tongues_191 : decode cX6_tongues 191 = .ok (.istore 8, 2) := by decide +kernel
theorem dX6_tongues_193 : decode cX6_tongues 193 = .ok (.iload 8, 2) := by decide +kernel
theorem dX6_tongues_195 : decode cX6_tongues 195 = .ok (.ifCond .le 21, 3) := by decide +kernel
theorem dX6_tongues_198 : decode cX6_tongues 198 = .ok (.iload 7, 2) := by decide +kernel
theorem dX6_tongues_200 : decode cX6_tongues 200 = .ok (.iload 8, 2) := by decide +kernel
theorem dX6_tongues_202 : decode cX6_tongues 202 = .ok (.irem, 1) := by decide +kernel
theorem dX6_tongues_203 : decode cX6_tongues 203 = .ok (.istore 9, 2) := by decide +kernel
theorem dX6_tongues_205 : decode cX6_tongues 205 = .ok (.iload 8, 2) := by decide +kernel
theorem dX6_tongues_207 : decode cX6_tongues 207 = .ok (.istore 7, 2) := by decide +kernel
theorem dX6_tongues_209 : decode cX6_tongues 209 = .ok (.iload 9, 2) := by decide +kernel
theorem dX6_tongues_211 : decode cX6_tongues 211 = .ok (.istore 8, 2) := by decide +kernel
theorem dX6_tongues_213 : decode cX6_tongues 213 = .ok (.goto (-20), 3) := by decide +kernel
theorem dX6_tongues_216 : decode cX6_tongues 216 = .ok (.iload 4, 2) := by decide +kernel
theorem dX6_tongues_218 : decode cX6_tongues 218 = .ok (.ifCond .ne 11, 3) := by decide +kernel
theorem dX6_tongues_221 : decode cX6_tongues 221 = .ok (.iload 5, 2) := by decide +kernel
theorem dX6_tongues_223 : decode cX6_tongues 223 = .ok (.iload 7, 2) := by decide +kernel
theorem dX6_tongues_225 : decode cX6_tongues 225 = .ok (.idiv, 1) := by decide +kernel
theorem dX6_tongues_226 : decode cX6_tongues 226 = .ok (.goto 8, 3) := by decide +kernel
theorem dX6_tongues_229 : decode cX6_tongues 229 = .ok (.iload 6, 2) := by decide +kernel
theorem dX6_tongues_231 : decode cX6_tongues 231 = .ok (.iload 7, 2) := by decide +kernel
theorem dX6_tongues_233 : decode cX6_tongues 233 = .ok (.idiv, 1) := by decide +kernel
theorem dX6_tongues_234 : decode cX6_tongues 234 = .ok (.ireturn, 1) := by decide +kernel
set_option maxRecDepth 20000 in
theorem ggX6_turn_X6_within : GoodIn wsX6_turn wsX6_within := goodIn_r _ [6] (by decide +kernel) (by decide +kernel)
set_option maxRecDepth 20000 in
theorem gX6_turn_X6_within : GoodIn wsX6_turn (va_wsS RX6 135 yX6_within wsX6_within) := goodIn_app (goodIn_of _ (by decide +kernel)) ggX6_turn_X6_within
set_option maxRecDepth 20000 in
theorem ggX6_turn_X6_changes : GoodIn wsX6_turn wsX6_changes := goodIn_r _ [10, 2, 11, 12, 13, 14, 15, 16, 17, 18, 19, 20, 21, 22, 23, 24, 25, 26, 27] (by decide +kernel) (by decide +kernel)
set_option maxRecDepth 20000 in
theorem gX6_turn_X6_changes : GoodIn wsX6_turn (wsV RX6 147 RX6 yX6_changes wsX6_changes) := goodIn_app (goodIn_of _ (by decide +kernel)) ggX6_turn_X6_changes
theorem dX6_turn_0 : decode cX6_turn 0 = .ok (.iload_n 1, 1) := by decide +kernel
theorem dX6_turn_1 : decode cX6_turn 1 = .ok (.bipush 8, 2) := by decide +kernel
theorem dX6_turn_3 : decode cX6_turn 3 = .ok (.irem, 1) := by decide +kernel
theorem dX6_turn_4 : decode cX6_turn 4 = .ok (.istore_n 2, 1) := by decide +kernel
theorem dX6_turn_5 : decode cX6_turn 5 = .ok (.iload_n 1, 1) := by decide +kernel
theorem dX6_turn_6 : decode cX6_turn 6 = .ok (.bipush 8, 2) := by decide +kernel
theorem dX6_turn_8 : decode cX6_turn 8 = .ok (.idiv, 1) := by decide +kernel
theorem dX6_turn_9 : decode cX6_turn 9 = .ok (.aload_n 0, 1) := by decide +kernel
theorem dX6_turn_10 : decode cX6_turn 10 = .ok (.getfield 13, 3) := by decide +kernel
theorem dX6_turn_13 : decode cX6_turn 13 = .ok (.iconst 0, 1) := by decide +kernel
theorem dX6_turn_14 : decode cX6_turn 14 = .ok (.iaload, 1) := by decide +kernel
theorem dX6_turn_15 : decode cX6_turn 15 = .ok (.irem, 1) := by decide +kernel
theorem dX6_turn_16 : decode cX6_turn 16 = .ok (.istore_n 3, 1) := by decide +kernel
theorem dX6_turn_17 : decode cX6_turn 17 = .ok (.iload_n 1, 1) := by decide +kernel
theorem dX6_turn_18 : decode cX6_turn 18 = .ok (.bipush 64, 2) := by decide +kernel
theorem dX6_turn_20 : decode cX6_turn 20 = .ok (.idiv, 1) := by decide +kernel
theorem dX6_turn_21 : decode cX6_turn 21 = .ok (.aload_n 0, 1) := by decide +kernel
theorem dX6_turn_22 : decode cX6_turn 22 = .ok (.getfield 13, 3) := by decide +kernel
theorem dX6_turn_25 : decode cX6_turn 25 = .ok (.iconst 1, 1) := by decide +kernel
theorem dX6_turn_26 : decode cX6_turn 26 = .ok (.iaload, 1) := by decide +kernel
theorem dX6_turn_27 : decode cX6_turn 27 = .ok (.irem, 1) := by decide +kernel
theorem dX6_turn_28 : decode cX6_turn 28 = .ok (.istore 4, 2) := by decide +kernel
theorem dX6_turn_30 : decode cX6_turn 30 = .ok (.iload_n 1, 1) := by decide +kernel
theorem dX6_turn_31 : decode cX6_turn 31 = .ok (.bipush 64, 2) := by decide +kernel
theorem dX6_turn_33 : decode cX6_turn 33 = .ok (.idiv, 1) := by decide +kernel
theorem dX6_turn_34 : decode cX6_turn 34 = .ok (.aload_n 0, 1) := by decide +kernel
theorem dX6_turn_35 : decode cX6_turn 35 = .ok (.getfield 13, 3) := by decide +kernel
theorem dX6_turn_38 : decode cX6_turn 38 = .ok (.iconst 0, 1) := by decide +kernel
theorem dX6_turn_39 : decode cX6_turn 39 = .ok (.iaload, 1) := by decide +kernel
theorem dX6_turn_40 : decode cX6_turn 40 = .ok (.irem, 1) := by decide +kernel
