theorem dX0_init_0 : decode cX0_init 0 = .ok (.aload_n 0, 1) := by decide +kernel
theorem dX0_init_1 : decode cX0_init 1 = .ok (.invokespecial 3, 3) := by decide +kernel
theorem dX0_init_4 : decode cX0_init 4 = .ok (.aload_n 0, 1) := by decide +kernel
theorem dX0_init_5 : decode cX0_init 5 = .ok (.bipush 64, 2) := by decide +kernel
theorem dX0_init_7 : decode cX0_init 7 = .ok (.newarray .int, 2) := by decide +kernel
theorem dX0_init_9 : decode cX0_init 9 = .ok (.putfield 11, 3) := by decide +kernel
theorem dX0_init_12 : decode cX0_init 12 = .ok (.aload_n 0, 1) := by decide +kernel
theorem dX0_init_13 : decode cX0_init 13 = .ok (.iconst 1, 1) := by decide +kernel
theorem dX0_init_14 : decode cX0_init 14 = .ok (.putfield 15, 3) := by decide +kernel
theorem dX0_init_17 : decode cX0_init 17 = .ok (.return_, 1) := by decide +kernel
theorem dX0_has_0 : decode cX0_has 0 = .ok (.iload_n 1, 1) := by decide +kernel
theorem dX0_has_1 : decode cX0_has 1 = .ok (.ifCond .lt 15, 3) := by decide +kernel
theorem dX0_has_4 : decode cX0_has 4 = .ok (.iload_n 1, 1) := by decide +kernel
theorem dX0_has_5 : decode cX0_has 5 = .ok (.aload_n 0, 1) := by decide +kernel
theorem dX0_has_6 : decode cX0_has 6 = .ok (.getfield 19, 3) := by decide +kernel
theorem dX0_has_9 : decode cX0_has 9 = .ok (.if_icmp .ge 7, 3) := by decide +kernel
theorem dX0_has_12 : decode cX0_has 12 = .ok (.iconst 1, 1) := by decide +kernel
theorem dX0_has_13 : decode cX0_has 13 = .ok (.goto 4, 3) := by decide +kernel
theorem dX0_has_16 : decode cX0_has 16 = .ok (.iconst 0, 1) := by decide +kernel
theorem dX0_has_17 : decode cX0_has 17 = .ok (.ireturn, 1) := by decide +kernel
theorem dX0_hasStation_0 : decode cX0_hasStation 0 = .ok (.iload_n 1, 1) := by decide +kernel
theorem dX0_hasStation_1 : decode cX0_hasStation 1 = .ok (.ifCond .lt 15, 3) := by decide +kernel
theorem dX0_hasStation_4 : decode cX0_hasStation 4 = .ok (.iload_n 1, 1) := by decide +kernel
theorem dX0_hasStation_5 : decode cX0_hasStation 5 = .ok (.aload_n 0, 1) := by decide +kernel
theorem dX0_hasStation_6 : decode cX0_hasStation 6 = .ok (.getfield 15, 3) := by decide +kernel
theorem dX0_hasStation_9 : decode cX0_hasStation 9 = .ok (.if_icmp .ge 7, 3) := by decide +kernel
theorem dX0_hasStation_12 : decode cX0_hasStation 12 = .ok (.iconst 1, 1) := by decide +kernel
theorem dX0_hasStation_13 : decode cX0_hasStation 13 = .ok (.goto 4, 3) := by decide +kernel
theorem dX0_hasStation_16 : decode cX0_hasStation 16 = .ok (.iconst 0, 1) := by decide +kernel
theorem dX0_hasStation_17 : decode cX0_hasStation 17 = .ok (.ireturn, 1) := by decide +kernel
theorem dX0_get_0 : decode cX0_get 0 = .ok (.iload_n 1, 1) := by decide +kernel
theorem dX0_get_1 : decode cX0_get 1 = .ok (.ifCond .lt 19, 3) := by decide +kernel
theorem dX0_get_4 : decode cX0_get 4 = .ok (.iload_n 1, 1) := by decide +kernel
theorem dX0_get_5 : decode cX0_get 5 = .ok (.bipush 8, 2) := by decide +kernel
theorem dX0_get_7 : decode cX0_get 7 = .ok (.if_icmp .ge 13, 3) := by decide +kernel
theorem dX0_get_10 : decode cX0_get 10 = .ok (.iload_n 2, 1) := by decide +kernel
theorem dX0_get_11 : decode cX0_get 11 = .ok (.ifCond .lt 9, 3) := by decide +kernel
theorem dX0_get_14 : decode cX0_get 14 = .ok (.iload_n 2, 1) := by decide +kernel
theorem dX0_get_15 : decode cX0_get 15 = .ok (.bipush 8, 2) := by decide +kernel
theorem dX0_get_17 : decode cX0_get 17 = .ok (.if_icmp .lt 5, 3) := by decide +kernel
theorem dX0_get_20 : decode cX0_get 20 = .ok (.iconst 0, 1) := by decide +kernel
theorem dX0_get_21 : decode cX0_get 21 = .ok (.ireturn, 1) := by decide +kernel
theorem dX0_get_22 : decode cX0_get 22 = .ok (.aload_n 0, 1) := by decide +kernel
theorem dX0_get_23 : decode cX0_get 23 = .ok (.getfield 11, 3) := by decide +kernel
theorem dX0_get_26 : decode cX0_get 26 = .ok (.iload_n 1, 1) := by decide +kernel
theorem dX0_get_27 : decode cX0_get 27 = .ok (.bipush 8, 2) := by decide +kernel
theorem dX0_get_29 : decode cX0_get 29 = .ok (.imul, 1) := by decide +kernel
theorem dX0_get_30 : decode cX0_get 30 = .ok (.iload_n 2, 1) := by decide +kernel
theorem dX0_get_31 : decode cX0_get 31 = .ok (.iadd, 1) := by decide +kernel
theorem dX0_get_32 : decode cX0_get 32 = .ok (.iaload, 1) := by decide +kernel
theorem dX0_get_33 : decode cX0_get 33 = .ok (.ireturn, 1) := by decide +kernel
theorem dX0_put_0 : decode cX0_put 0 = .ok (.iload_n 1, 1) := by decide +kernel
theorem dX0_put_1 : decode cX0_put 1 = .ok (.ifCond .lt 31, 3) := by decide +kernel
theorem dX0_put_4 : decode cX0_put 4 = .ok (.iload_n 1, 1) := by decide +kernel
theorem dX0_put_5 : decode cX0_put 5 = .ok (.bipush 8, 2) := by decide +kernel
theorem dX0_put_7 : decode cX0_put 7 = .ok (.if_icmp .ge 25, 3) := by decide +kernel
theorem dX0_put_10 : decode cX0_put 10 = .ok (.iload_n 2, 1) := by decide +kernel
theorem dX0_put_11 : decode cX0_put 11 = .ok (.ifCond .lt 21, 3) := by decide +kernel
theorem dX0_put_14 : decode cX0_put 14 = .ok (.iload_n 2, 1) := by decide +kernel
theorem dX0_put_15 : decode cX0_put 15 = .ok (.bipush 8, 2) := by decide +kernel
theorem dX0_put_17 : decode cX0_put 17 = .ok (.if_icmp .ge 15, 3) := by decide +kernel
theorem dX0_put_20 : decode cX0_put 20 = .ok (.aload_n 0, 1) := by decide +kernel
theorem dX0_put_21 : decode cX0_put 21 = .ok (.getfield 11, 3) := by decide +kernel
theorem dX0_put_24 : decode cX0_put 24 = .ok (.iload_n 1, 1) := by decide +kernel
theorem dX0_put_25 : decode cX0_put 25 = .ok (.bipush 8, 2) := by decide +kernel
theorem dX0_put_27 : decode cX0_put 27 = .ok (.imul, 1) := by decide +kernel
theorem dX0_put_28 : decode cX0_put 28 = .ok (.iload_n 2, 1) := by decide +kernel
theorem dX0_put_29 : decode cX0_put 29 = .ok (.iadd, 1) := by decide +kernel
theorem dX0_put_30 : decode cX0_put 30 = .ok (.iload_n 3, 1) := by decide +kernel
theorem dX0_put_31 : decode cX0_put 31 = .ok (.iastore, 1) := by decide +kernel
theorem dX0_put_32 : decode cX0_put 32 = .ok (.return_, 1) := by decide +kernel
set_option maxRecDepth 20000 in
theorem ggX0_add_X0_put : GoodIn wsX0_add wsX0_put := goodIn_r _ [6, 7, 8, 9, 10] (by decide +kernel) (by decide +kernel)
set_option maxRecDepth 20000 in
theorem gX0_add_X0_put : GoodIn wsX0_add (wsV RX0 22 RX0 yX0_put wsX0_put) := goodIn_app (goodIn_of _ (by decide +kernel)) ggX0_add_X0_put
theorem dX0_add_0 : decode cX0_add 0 = .ok (.aload_n 0, 1) := by decide +kernel
theorem dX0_add_1 : decode cX0_add 1 = .ok (.getfield 19, 3) := by decide +kernel
theorem dX0_add_4 : decode cX0_add 4 = .ok (.ifCond .lt 12, 3) := by decide +kernel
theorem dX0_add_7 : decode cX0_add 7 = .ok (.aload_n 0, 1) := by decide +kernel
theorem dX0_add_8 : decode cX0_add 8 = .ok (.getfield 19, 3) := by decide +kernel
theorem dX0_add_11 : decode cX0_add 11 = .ok (.bipush 8, 2) := by decide +kernel
theorem dX0_add_13 : decode cX0_add 13 = .ok (.if_icmp .lt 4, 3) := by decide +kernel
theorem dX0_add_16 : decode cX0_add 16 = .ok (.return_, 1) := by decide +kernel
theorem dX0_add_17 : decode cX0_add 17 = .ok (.aload_n 0, 1) := by decide +kernel
theorem dX0_add_18 : decode cX0_add 18 = .ok (.aload_n 0, 1) := by decide +kernel
theorem dX0_add_19 : decode cX0_add 19 = .ok (.getfield 19, 3) := by decide +kernel
theorem dX0_add_22 : decode cX0_add 22 = .ok (.iconst 0, 1) := by decide +kernel
theorem dX0_add_23 : decode cX0_add 23 = .ok (.iload_n 3, 1) := by decide +kernel
theorem dX0_add_24 : decode cX0_add 24 = .ok (.invokevirtual 22, 3) := by decide +kernel
theorem dX0_add_27 : decode cX0_add 27 = .ok (.aload_n 0, 1) := by decide +kernel
theorem dX0_add_28 : decode cX0_add 28 = .ok (.aload_n 0, 1) := by decide +kernel
theorem dX0_add_29 : decode cX0_add 29 = .ok (.getfield 19, 3) := by decide +kernel
theorem dX0_add_32 : decode cX0_add 32 = .ok (.iconst 1, 1) := by decide +kernel
theorem dX0_add_33 : decode cX0_add 33 = .ok (.iload 4, 2) := by decide +kernel
theorem dX0_add_35 : decode cX0_add 35 = .ok (.invokevirtual 22, 3) := by decide +kernel
theorem dX0_add_38 : decode cX0_add 38 = .ok (.aload_n 0, 1) := by decide +kernel
theorem dX0_add_39 : decode cX0_add 39 = .ok (.aload_n 0, 1) := by decide +kernel
theorem dX0_add_40 : decode cX0_add 40 = .ok (.getfield 19, 3) := by decide +kernel
theorem dX0_add_43 : decode cX0_add 43 = .ok (.iconst 2, 1) := by decide +kernel
theorem dX0_add_44 : decode cX0_add 44 = .ok (.iload 5, 2) := by decide +kernel
theorem dX0_add_46 : decode cX0_add 46 = .ok (.invokevirtual 22, 3) := by decide +kernel
theorem dX0_add_49 : decode cX0_add 49 = .ok (.aload_n 0, 1) := by decide +kernel
theorem dX0_add_50 : decode cX0_add 50 = .ok (.aload_n 0, 1) := by decide +kernel
theorem dX0_add_51 : decode cX0_add 51 = .ok (.getfield 19, 3) := by decide +kernel
theorem dX0_add_54 : decode cX0_add 54 = .ok (.iconst 3, 1) := by decide +kernel
theorem dX0_add_55 : decode cX0_add 55 = .ok (.iload 6, 2) := by decide +kernel
theorem dX0_add_57 : decode cX0_add 57 = .ok (.invokevirtual 22, 3) := by decide +kernel
theorem dX0_add_60 : decode cX0_add 60 = .ok (.aload_n 0, 1) := by decide +kernel
theorem dX0_add_61 : decode cX0_add 61 = .ok (.aload_n 0, 1) := by decide +kernel
theorem dX0_add_62 : decode cX0_add 62 = .ok (.getfield 19, 3) := by decide +kernel
theorem dX0_add_65 : decode cX0_add 65 = .ok (.iconst 4, 1) := by decide +kernel
theorem dX0_add_66 : decode cX0_add 66 = .ok (.iload_n 1, 1) := by decide +kernel
theorem dX0_add_67 : decode cX0_add 67 = .ok (.invokevirtual 22, 3) := by decide +kernel
theorem dX0_add_70 : decode cX0_add 70 = .ok (.aload_n 0, 1) := by decide +kernel
theorem dX0_add_71 : decode cX0_add 71 = .ok (.aload_n 0, 1) := by decide +kernel
theorem dX0_add_72 : decode cX0_add 72 = .ok (.getfield 19, 3) := by decide +kernel
theorem dX0_add_75 : decode cX0_add 75 = .ok (.iconst 5, 1) := by decide +kernel
theorem dX0_add_76 : decode cX0_add 76 = .ok (.iload_n 2, 1) := by decide +kernel
theorem dX0_add_77 : decode cX0_add 77 = .ok (.invokevirtual 22, 3) := by decide +kernel
theorem dX0_add_80 : decode cX0_add 80 = .ok (.aload_n 0, 1) := by decide +kernel
theorem dX0_add_81 : decode cX0_add 81 = .ok (.aload_n 0, 1) := by decide +kernel
theorem dX0_add_82 : decode cX0_add 82 = .ok (.getfield 19, 3) := by decide +kernel
theorem dX0_add_85 : decode cX0_add 85 = .ok (.bipush 6, 2) := by decide +kernel
theorem dX0_add_87 : decode cX0_add 87 = .ok (.iconst 0, 1) := by decide +kernel
theorem dX0_add_88 : decode cX0_add 88 = .ok (.invokevirtual 22, 3) := by decide +kernel
theorem dX0_add_91 : decode cX0_add 91 = .ok (.aload_n 0, 1) := by decide +kernel
theorem dX0_add_92 : decode cX0_add 92 = .ok (.aload_n 0, 1) := by decide +kernel
theorem dX0_add_93 : decode cX0_add 93 = .ok (.getfield 19, 3) := by decide +kernel
theorem dX0_add_96 : decode cX0_add 96 = .ok (.bipush 7, 2) := by decide +kernel
theorem dX0_add_98 : decode cX0_add 98 = .ok (.iconst 1, 1) := by decide +kernel
theorem dX0_add_99 : decode cX0_add 99 = .ok (.iload_n 1, 1) := by decide +kernel
theorem dX0_add_100 : decode cX0_add 100 = .ok (.ishl, 1) := by decide +kernel
theorem dX0_add_101 : decode cX0_add 101 = .ok (.iconst 1, 1) := by decide +kernel
theorem dX0_add_102 : decode cX0_add 102 = .ok (.iload_n 2, 1) := by decide +kernel
theorem dX0_add_103 : decode cX0_add 103 = .ok (.ishl, 1) := by decide +kernel
theorem dX0_add_104 : decode cX0_add 104 = .ok (.ior, 1) := by decide +kernel
theorem dX0_add_105 : decode cX0_add 105 = .ok (.invokevirtual 22, 3) := by decide +kernel
theorem dX0_add_108 : decode cX0_add 108 = .ok (.aload_n 0, 1) := by decide +kernel
theorem dX0_add_109 : decode cX0_add 109 = .ok (.dup, 1) := by decide +kernel
theorem dX0_add_110 : decode cX0_add 110 = .ok (.getfield 19, 3) := by decide +kernel
theorem dX0_add_113 : decode cX0_add 113 = .ok (.iconst 1, 1) := by decide +kernel
theorem dX0_add_114 : decode cX0_add 114 = .ok (.iadd, 1) := by decide +kernel
theorem dX0_add_115 : decode cX0_add 115 = .ok (.putfield 19, 3) := by decide +kernel
theorem dX0_add_118 : decode cX0_add 118 = .ok (.return_, 1) := by decide +kernel
set_option maxRecDepth 20000 in
theorem ggX0_remove_X0_has : GoodIn wsX0_remove wsX0_has := goodIn_r _ [7, 2, 8, 9, 10] (by decide +kernel) (by decide +kernel)
set_option maxRecDepth 20000 in
theorem gX0_remove_X0_has : GoodIn wsX0_remove (wsV RX0 26 RX0 yX0_has wsX0_has) := goodIn_app (goodIn_of _ (by decide +kernel)) ggX0_remove_X0_has
theorem dX0_remove_0 : decode cX0_remove 0 = .ok (.aload_n 0, 1) := by decide +kernel
theorem dX0_remove_1 : decode cX0_remove 1 = .ok (.iload_n 1, 1) := by decide +kernel
theorem dX0_remove_2 : decode cX0_remove 2 = .ok (.invokevirtual 26, 3) := by decide +kernel
theorem dX0_remove_5 : decode cX0_remove 5 = .ok (.ifCond .ne 4, 3) := by decide +kernel
theorem dX0_remove_8 : decode cX0_remove 8 = .ok (.return_, 1) := by decide +kernel
theorem dX0_remove_9 : decode cX0_remove 9 = .ok (.iload_n 1, 1) := by decide +kernel
theorem dX0_remove_10 : decode cX0_remove 10 = .ok (.bipush 8, 2) := by decide +kernel
theorem dX0_remove_12 : decode cX0_remove 12 = .ok (.imul, 1) := by decide +kernel
theorem dX0_remove_13 : decode cX0_remove 13 = .ok (.istore_n 2, 1) := by decide +kernel
theorem dX0_remove_14 : decode cX0_remove 14 = .ok (.iload_n 2, 1) := by decide +kernel
theorem dX0_remove_15 : decode cX0_remove 15 = .ok (.ifCond .lt 36, 3) := by decide +kernel
theorem dX0_remove_18 : decode cX0_remove 18 = .ok (.iload_n 2, 1) := by decide +kernel
theorem dX0_remove_19 : decode cX0_remove 19 = .ok (.bipush 8, 2) := by decide +kernel
theorem dX0_remove_21 : decode cX0_remove 21 = .ok (.iadd, 1) := by decide +kernel
theorem dX0_remove_22 : decode cX0_remove 22 = .ok (.aload_n 0, 1) := by decide +kernel
theorem dX0_remove_23 : decode cX0_remove 23 = .ok (.getfield 11, 3) := by decide +kernel
theorem dX0_remove_26 : decode cX0_remove 26 = .ok (.arraylength, 1) := by decide +kernel
theorem dX0_remove_27 : decode cX0_remove 27 = .ok (.if_icmp .ge 24, 3) := by decide +kernel
theorem dX0_remove_30 : decode cX0_remove 30 = .ok (.aload_n 0, 1) := by decide +kernel
theorem dX0_remove_31 : decode cX0_remove 31 = .ok (.getfield 11, 3) := by decide +kernel
theorem dX0_remove_34 : decode cX0_remove 34 = .ok (.iload_n 2, 1) := by decide +kernel
theorem dX0_remove_35 : decode cX0_remove 35 = .ok (.aload_n 0, 1) := by decide +kernel
theorem dX0_remove_36 : decode cX0_remove 36 = .ok (.getfield 11, 3) := by decide +kernel
theorem dX0_remove_39 : decode cX0_remove 39 = .ok (.iload_n 2, 1) := by decide +kernel
theorem dX0_remove_40 : decode cX0_remove 40 = .ok (.bipush 8, 2) := by decide +kernel
theorem dX0_remove_42 : decode cX0_remove 42 = .ok (.iadd, 1) := by decide +kernel
theorem dX0_remove_43 : decode cX0_remove 43 = .ok (.iaload, 1) := by decide +kernel
theorem dX0_remove_44 : decode cX0_remove 44 = .ok (.iastore, 1) := by decide +kernel
theorem dX0_remove_45 : decode cX0_remove 45 = .ok (.iinc 2 1, 3) := by decide +kernel
theorem dX0_remove_48 : decode cX0_remove 48 = .ok (.goto (-34), 3) := by decide +kernel
theorem dX0_remove_51 : decode cX0_remove 51 = .ok (.aload_n 0, 1) := by decide +kernel
theorem dX0_remove_52 : decode cX0_remove 52 = .ok (.dup, 1) := by decide +kernel
theorem dX0_remove_53 : decode cX0_remove 53 = .ok (.getfield 19, 3) := by decide +kernel
theorem dX0_remove_56 : decode cX0_remove 56 = .ok (.iconst 1, 1) := by decide +kernel
theorem dX0_remove_57 : decode cX0_remove 57 = .ok (.isub, 1) := by decide +kernel
theorem dX0_remove_58 : decode cX0_remove 58 = .ok (.putfield 19, 3) := by decide +kernel
theorem dX0_remove_61 : decode cX0_remove 61 = .ok (.return_, 1) := by decide +kernel
set_option maxRecDepth 20000 in
theorem ggX0_turn_X0_get : GoodIn wsX0_turn wsX0_get := goodIn_r _ [5, 6, 11, 12, 13] (by decide +kernel) (by decide +kernel)
set_option maxRecDepth 20000 in
theorem gX0_turn_X0_get : GoodIn wsX0_turn (wsV RX0 30 RX0 yX0_get wsX0_get) := goodIn_app (goodIn_of _ (by decide +kernel)) ggX0_turn_X0_get
set_option maxRecDepth 20000 in
theorem ggX0_turn_X0_put : GoodIn wsX0_turn wsX0_put := goodIn_r _ [10, 6, 11, 12, 13] (by decide +kernel) (by decide +kernel)
set_option maxRecDepth 20000 in
theorem gX0_turn_X0_put : GoodIn wsX0_turn (wsV RX0 22 RX0 yX0_put wsX0_put) := goodIn_app (goodIn_of _ (by decide +kernel)) ggX0_turn_X0_put
theorem dX0_turn_0 : decode cX0_turn 0 = .ok (.aload_n 0, 1) := by decide +kernel
theorem dX0_turn_1 : decode cX0_turn 1 = .ok (.iload_n 1, 1) := by decide +kernel
theorem dX0_turn_2 : decode cX0_turn 2 = .ok (.bipush 6, 2) := by decide +kernel
theorem dX0_turn_4 : decode cX0_turn 4 = .ok (.iconst 1, 1) := by decide +kernel
theorem dX0_turn_5 : decode cX0_turn 5 = .ok (.aload_n 0, 1) := by decide +kernel
theorem dX0_turn_6 : decode cX0_turn 6 = .ok (.iload_n 1, 1) := by decide +kernel
theorem dX0_turn_7 : decode cX0_turn 7 = .ok (.bipush 6, 2) := by decide +kernel
theorem dX0_turn_9 : decode cX0_turn 9 = .ok (.invokevirtual 30, 3) := by decide +kernel
theorem dX0_turn_12 : decode cX0_turn 12 = .ok (.isub, 1) := by decide +kernel
theorem dX0_turn_13 : decode cX0_turn 13 = .ok (.invokevirtual 22, 3) := by decide +kernel
theorem dX0_turn_16 : decode cX0_turn 16 = .ok (.return_, 1) := by decide +kernel
theorem dX0_copy_0 : decode cX0_copy 0 = .ok (.aload_n 1, 1) := by decide +kernel
theorem dX0_copy_1 : decode cX0_copy 1 = .ok (.ifnonnull 4, 3) := by decide +kernel
theorem dX0_copy_4 : decode cX0_copy 4 = .ok (.return_, 1) := by decide +kernel
theorem dX0_copy_5 : decode cX0_copy 5 = .ok (.iconst 0, 1) := by decide +kernel
theorem dX0_copy_6 : decode cX0_copy 6 = .ok (.istore_n 2, 1) := by decide +kernel
theorem dX0_copy_7 : decode cX0_copy 7 = .ok (.iload_n 2, 1) := by decide +kernel
theorem dX0_copy_8 : decode cX0_copy 8 = .ok (.aload_n 0, 1) := by decide +kernel
theorem dX0_copy_9 : decode cX0_copy 9 = .ok (.getfield 11, 3) := by decide +kernel
theorem dX0_copy_12 : decode cX0_copy 12 = .ok (.arraylength, 1) := by decide +kernel
theorem dX0_copy_13 : decode cX0_copy 13 = .ok (.if_icmp .ge 30, 3) := by decide +kernel
theorem dX0_copy_16 : decode cX0_copy 16 = .ok (.iload_n 2, 1) := by decide +kernel
theorem dX0_copy_17 : decode cX0_copy 17 = .ok (.aload_n 1, 1) := by decide +kernel
theorem dX0_copy_18 : decode cX0_copy 18 = .ok (.getfield 11, 3) := by decide +kernel
theorem dX0_copy_21 : decode cX0_copy 21 = .ok (.arraylength, 1) := by decide +kernel
theorem dX0_copy_22 : decode cX0_copy 22 = .ok (.if_icmp .ge 21, 3) := by decide +kernel
theorem dX0_copy_25 : decode cX0_copy 25 = .ok (.aload_n 0, 1) := by decide +kernel
theorem dX0_copy_26 : decode cX0_copy 26 = .ok (.getfield 11, 3) := by decide +kernel
theorem dX0_copy_29 : decode cX0_copy 29 = .ok (.iload_n 2, 1) := by decide +kernel
theorem dX0_copy_30 : decode cX0_copy 30 = .ok (.aload_n 1, 1) := by decide +kernel
theorem dX0_copy_31 : decode cX0_copy 31 = .ok (.getfield 11, 3) := by decide +kernel
theorem dX0_copy_34 : decode cX0_copy 34 = .ok (.iload_n 2, 1) := by decide +kernel
theorem dX0_copy_35 : decode cX0_copy 35 = .ok (.iaload, 1) := by decide +kernel
theorem dX0_copy_36 : decode cX0_copy 36 = .ok (.iastore, 1) := by decide +kernel
theorem dX0_copy_37 : decode cX0_copy 37 = .ok (.iinc 2 1, 3) := by decide +kernel
theorem dX0_copy_40 : decode cX0_copy 40 = .ok (.goto (-33), 3) := by decide +kernel
theorem dX0_copy_43 : decode cX0_copy 43 = .ok (.aload_n 0, 1) := by decide +kernel
theorem dX0_copy_44 : decode cX0_copy 44 = .ok (.aload_n 1, 1) := by decide +kernel
theorem dX0_copy_45 : decode cX0_copy 45 = .ok (.getfield 19, 3) := by decide +kernel
theorem dX0_copy_48 : decode cX0_copy 48 = .ok (.putfield 19, 3) := by decide +kernel
theorem dX0_copy_51 : decode cX0_copy 51 = .ok (.aload_n 0, 1) := by decide +kernel
theorem dX0_copy_52 : decode cX0_copy 52 = .ok (.aload_n 1, 1) := by decide +kernel
theorem dX0_copy_53 : decode cX0_copy 53 = .ok (.getfield 15, 3) := by decide +kernel
theorem dX0_copy_56 : decode cX0_copy 56 = .ok (.putfield 15, 3) := by decide +kernel
theorem dX0_copy_59 : decode cX0_copy 59 = .ok (.return_, 1) := by decide +kernel
set_option maxRecDepth 20000 in
theorem ggX0_vector_X0_get : GoodIn wsX0_vector wsX0_get := goodIn_r _ [5, 6, 21, 22, 23] (by decide +kernel) (by decide +kernel)
set_option maxRecDepth 20000 in
theorem gX0_vector_X0_get : GoodIn wsX0_vector (wsV RX0 30 RX0 yX0_get wsX0_get) := goodIn_app (goodIn_of _ (by decide +kernel)) ggX0_vector_X0_get
set_option maxRecDepth 20000 in
theorem ggX0_vector_X0_rise : GoodIn wsX0_vector wsX0_rise := goodIn_r _ [9] (by decide +kernel) (by decide +kernel)
set_option maxRecDepth 20000 in
theorem gX0_vector_X0_rise : GoodIn wsX0_vector (va_wsS RX0 34 yX0_rise wsX0_rise) := goodIn_app (goodIn_of _ (by decide +kernel)) ggX0_vector_X0_rise
set_option maxRecDepth 20000 in
theorem ggX0_vector_X0_level : GoodIn wsX0_vector wsX0_level := goodIn_r _ [12] (by decide +kernel) (by decide +kernel)
set_option maxRecDepth 20000 in
theorem gX0_vector_X0_level : GoodIn wsX0_vector (va_wsS RX0 37 yX0_level wsX0_level) := goodIn_app (goodIn_of _ (by decide +kernel)) ggX0_vector_X0_level
set_option maxRecDepth 20000 in
theorem ggX0_vector_X0_sine : GoodIn wsX0_vector wsX0_sine := goodIn_r _ [15, 16, 17, 18, 19, 20] (by decide +kernel) (by decide +kernel)
set_option maxRecDepth 20000 in
theorem gX0_vector_X0_sine : GoodIn wsX0_vector (va_wsS RX0 40 yX0_sine wsX0_sine) := goodIn_app (goodIn_of _ (by decide +kernel)) ggX0_vector_X0_sine
theorem dX0_vector_0 : decode cX0_vector 0 = .ok (.aload_n 0, 1) := by decide +kernel
theorem dX0_vector_1 : decode cX0_vector 1 = .ok (.iload_n 1, 1) := by decide +kernel
theorem dX0_vector_2 : decode cX0_vector 2 = .ok (.iconst 0, 1) := by decide +kernel
theorem dX0_vector_3 : decode cX0_vector 3 = .ok (.invokevirtual 30, 3) := by decide +kernel
theorem dX0_vector_6 : decode cX0_vector 6 = .ok (.istore_n 3, 1) := by decide +kernel
theorem dX0_vector_7 : decode cX0_vector 7 = .ok (.aload_n 0, 1) := by decide +kernel
theorem dX0_vector_8 : decode cX0_vector 8 = .ok (.iload_n 1, 1) := by decide +kernel
theorem dX0_vector_9 : decode cX0_vector 9 = .ok (.iconst 2, 1) := by decide +kernel
theorem dX0_vector_10 : decode cX0_vector 10 = .ok (.invokevirtual 30, 3) := by decide +kernel
theorem dX0_vector_13 : decode cX0_vector 13 = .ok (.istore 4, 2) := by decide +kernel
theorem dX0_vector_15 : decode cX0_vector 15 = .ok (.iload_n 2, 1) := by decide +kernel
theorem dX0_vector_16 : decode cX0_vector 16 = .ok (.iconst 2, 1) := by decide +kernel
theorem dX0_vector_17 : decode cX0_vector 17 = .ok (.if_icmp .ne 10, 3) := by decide +kernel
theorem dX0_vector_20 : decode cX0_vector 20 = .ok (.iload_n 3, 1) := by decide +kernel
theorem dX0_vector_21 : decode cX0_vector 21 = .ok (.iload 4, 2) := by decide +kernel
theorem dX0_vector_23 : decode cX0_vector 23 = .ok (.invokestatic 34, 3) := by decide +kernel
theorem dX0_vector_26 : decode cX0_vector 26 = .ok (.ireturn, 1) := by decide +kernel
theorem dX0_vector_27 : decode cX0_vector 27 = .ok (.iload_n 3, 1) := by decide +kernel
theorem dX0_vector_28 : decode cX0_vector 28 = .ok (.iload 4, 2) := by decide +kernel
theorem dX0_vector_30 : decode cX0_vector 30 = .ok (.invokestatic 37, 3) := by decide +kernel
theorem dX0_vector_33 : decode cX0_vector 33 = .ok (.aload_n 0, 1) := by decide +kernel
theorem dX0_vector_34 : decode cX0_vector 34 = .ok (.iload_n 1, 1) := by decide +kernel
theorem dX0_vector_35 : decode cX0_vector 35 = .ok (.iconst 1, 1) := by decide +kernel
theorem dX0_vector_36 : decode cX0_vector 36 = .ok (.invokevirtual 30, 3) := by decide +kernel
theorem dX0_vector_39 : decode cX0_vector 39 = .ok (.iload_n 2, 1) := by decide +kernel
theorem dX0_vector_40 : decode cX0_vector 40 = .ok (.iconst 1, 1) := by decide +kernel
theorem dX0_vector_41 : decode cX0_vector 41 = .ok (.if_icmp .ne 7, 3) := by decide +kernel
theorem dX0_vector_44 : decode cX0_vector 44 = .ok (.iconst 3, 1) := by decide +kernel
theorem dX0_vector_45 : decode cX0_vector 45 = .ok (.goto 4, 3) := by decide +kernel
theorem dX0_vector_48 : decode cX0_vector 48 = .ok (.iconst 0, 1) := by decide +kernel
theorem dX0_vector_49 : decode cX0_vector 49 = .ok (.iadd, 1) := by decide +kernel
theorem dX0_vector_50 : decode cX0_vector 50 = .ok (.invokestatic 40, 3) := by decide +kernel
theorem dX0_vector_53 : decode cX0_vector 53 = .ok (.imul, 1) := by decide +kernel
theorem dX0_vector_54 : decode cX0_vector 54 = .ok (.bipush 100, 2) := by decide +kernel
theorem dX0_vector_56 : decode cX0_vector 56 = .ok (.idiv, 1) := by decide +kernel
theorem dX0_vector_57 : decode cX0_vector 57 = .ok (.ireturn, 1) := by decide +kernel
set_option maxRecDepth 20000 in
theorem ggX0_sine_J9_floorMod_7cf53 : GoodIn wsX0_sine wsJ9_floorMod_7cf53 := goodIn_r _ [5] (by decide +kernel) (by decide +kernel)
set_option maxRecDepth 20000 in
theorem gX0_sine_J9_floorMod_7cf53 : GoodIn wsX0_sine (va_wsS RX0 44 yJ9_floorMod_7cf53 wsJ9_floorMod_7cf53) := goodIn_app (goodIn_of _ (by decide +kernel)) ggX0_sine_J9_floorMod_7cf53
theorem dX0_sine_0 : decode cX0_sine 0 = .ok (.iload_n 0, 1) := by decide +kernel
theorem dX0_sine_1 : decode cX0_sine 1 = .ok (.bipush 12, 2) := by decide +kernel
theorem dX0_sine_3 : decode cX0_sine 3 = .ok (.invokestatic 44, 3) := by decide +kernel
theorem dX0_sine_6 : decode cX0_sine 6 = .ok (.istore_n 1, 1) := by decide +kernel
theorem dX0_sine_7 : decode cX0_sine 7 = .ok (.iload_n 1, 1) := by decide +kernel
theorem dX0_sine_8 : decode cX0_sine 8 = .ok (.ifCond .lt 19, 3) := by decide +kernel
theorem dX0_sine_11 : decode cX0_sine 11 = .ok (.iload_n 1, 1) := by decide +kernel
theorem dX0_sine_12 : decode cX0_sine 12 = .ok (.getstatic 49, 3) := by decide +kernel
theorem dX0_sine_15 : decode cX0_sine 15 = .ok (.arraylength, 1) := by decide +kernel
theorem dX0_sine_16 : decode cX0_sine 16 = .ok (.if_icmp .ge 11, 3) := by decide +kernel
theorem dX0_sine_19 : decode cX0_sine 19 = .ok (.getstatic 49, 3) := by decide +kernel
theorem dX0_sine_22 : decode cX0_sine 22 = .ok (.iload_n 1, 1) := by decide +kernel
theorem dX0_sine_23 : decode cX0_sine 23 = .ok (.iaload, 1) := by decide +kernel
theorem dX0_sine_24 : decode cX0_sine 24 = .ok (.goto 4, 3) := by decide +kernel
theorem dX0_sine_27 : decode cX0_sine 27 = .ok (.iconst 0, 1) := by decide +kernel
theorem dX0_sine_28 : decode cX0_sine 28 = .ok (.ireturn, 1) := by decide +kernel
theorem dX0_level_0 : decode cX0_level 0 = .ok (.iload_n 1, 1) := by decide +kernel
theorem dX0_level_1 : decode cX0_level 1 = .ok (.tableswitch 37 1 3 #[29, 27, 29], 27) := by decide +kernel
theorem dX0_level_28 : decode cX0_level 28 = .ok (.iload_n 0, 1) := by decide +kernel
theorem dX0_level_29 : decode cX0_level 29 = .ok (.ireturn, 1) := by decide +kernel
theorem dX0_level_30 : decode cX0_level 30 = .ok (.iload_n 0, 1) := by decide +kernel
theorem dX0_level_31 : decode cX0_level 31 = .ok (.bipush 87, 2) := by decide +kernel
theorem dX0_level_33 : decode cX0_level 33 = .ok (.imul, 1) := by decide +kernel
theorem dX0_level_34 : decode cX0_level 34 = .ok (.bipush 100, 2) := by decide +kernel
theorem dX0_level_36 : decode cX0_level 36 = .ok (.idiv, 1) := by decide +kernel
theorem dX0_level_37 : decode cX0_level 37 = .ok (.ireturn, 1) := by decide +kernel
theorem dX0_level_38 : decode cX0_level 38 = .ok (.iload_n 0, 1) := by decide +kernel
theorem dX0_level_39 : decode cX0_level 39 = .ok (.bipush 50, 2) := by decide +kernel
theorem dX0_level_41 : decode cX0_level 41 = .ok (.imul, 1) := by decide +kernel
theorem dX0_level_42 : decode cX0_level 42 = .ok (.bipush 100, 2) := by decide +kernel
theorem dX0_level_44 : decode cX0_level 44 = .ok (.idiv, 1) := by decide +kernel
theorem dX0_level_45 : decode cX0_level 45 = .ok (.ireturn, 1) := by decide +kernel
theorem dX0_rise_0 : decode cX0_rise 0 = .ok (.iload_n 1, 1) := by decide +kernel
theorem dX0_rise_1 : decode cX0_rise 1 = .ok (.tableswitch 61 0 4 #[35, 44, 61, 49, 53], 35) := by decide +kernel
theorem dX0_rise_36 : decode cX0_rise 36 = .ok (.iload_n 0, 1) := by decide +kernel
theorem dX0_rise_37 : decode cX0_rise 37 = .ok (.bipush 87, 2) := by decide +kernel
theorem dX0_rise_39 : decode cX0_rise 39 = .ok (.imul, 1) := by decide +kernel
theorem dX0_rise_40 : decode cX0_rise 40 = .ok (.bipush 100, 2) := by decide +kernel
theorem dX0_rise_42 : decode cX0_rise 42 = .ok (.idiv, 1) := by decide +kernel
theorem dX0_rise_43 : decode cX0_rise 43 = .ok (.ineg, 1) := by decide +kernel
theorem dX0_rise_44 : decode cX0_rise 44 = .ok (.ireturn, 1) := by decide +kernel
theorem dX0_rise_45 : decode cX0_rise 45 = .ok (.iload_n 0, 1) := by decide +kernel
theorem dX0_rise_46 : decode cX0_rise 46 = .ok (.iconst 2, 1) := by decide +kernel
theorem dX0_rise_47 : decode cX0_rise 47 = .ok (.idiv, 1) := by decide +kernel
theorem dX0_rise_48 : decode cX0_rise 48 = .ok (.ineg, 1) := by decide +kernel
theorem dX0_rise_49 : decode cX0_rise 49 = .ok (.ireturn, 1) := by decide +kernel
theorem dX0_rise_50 : decode cX0_rise 50 = .ok (.iload_n 0, 1) := by decide +kernel
theorem dX0_rise_51 : decode cX0_rise 51 = .ok (.iconst 2, 1) := by decide +kernel
theorem dX0_rise_52 : decode cX0_rise 52 = .ok (.idiv, 1) := by decide +kernel
theorem dX0_rise_53 : decode cX0_rise 53 = .ok (.ireturn, 1) := by decide +kernel
theorem dX0_rise_54 : decode cX0_rise 54 = .ok (.iload_n 0, 1) := by decide +kernel
theorem dX0_rise_55 : decode cX0_rise 55 = .ok (.bipush 87, 2) := by decide +kernel
theorem dX0_rise_57 : decode cX0_rise 57 = .ok (.imul, 1) := by decide +kernel
theorem dX0_rise_58 : decode cX0_rise 58 = .ok (.bipush 100, 2) := by decide +kernel
theorem dX0_rise_60 : decode cX0_rise 60 = .ok (.idiv, 1) := by decide +kernel
theorem dX0_rise_61 : decode cX0_rise 61 = .ok (.ireturn, 1) := by decide +kernel
theorem dX0_rise_62 : decode cX0_rise 62 = .ok (.iconst 0, 1) := by decide +kernel
theorem dX0_rise_63 : decode cX0_rise 63 = .ok (.ireturn, 1) := by decide +kernel
theorem dX0_all_0 : decode cX0_all 0 = .ok (.iconst 1, 1) := by decide +kernel
theorem dX0_all_1 : decode cX0_all 1 = .ok (.aload_n 0, 1) := by decide +kernel
theorem dX0_all_2 : decode cX0_all 2 = .ok (.getfield 19, 3) := by decide +kernel
theorem dX0_all_5 : decode cX0_all 5 = .ok (.ishl, 1) := by decide +kernel
theorem dX0_all_6 : decode cX0_all 6 = .ok (.iconst 1, 1) := by decide +kernel
theorem dX0_all_7 : decode cX0_all 7 = .ok (.isub, 1) := by decide +kernel
theorem dX0_all_8 : decode cX0_all 8 = .ok (.ireturn, 1) := by decide +kernel
set_option maxRecDepth 20000 in
theorem ggX0_open_X0_get : GoodIn wsX0_open wsX0_get := goodIn_r _ [6, 7, 8, 9, 10] (by decide +kernel) (by decide +kernel)
set_option maxRecDepth 20000 in
theorem gX0_open_X0_get : GoodIn wsX0_open (wsV RX0 30 RX0 yX0_get wsX0_get) := goodIn_app (goodIn_of _ (by decide +kernel)) ggX0_open_X0_get
theorem dX0_open_0 : decode cX0_open 0 = .ok (.iconst 0, 1) := by decide +kernel
theorem dX0_open_1 : decode cX0_open 1 = .ok (.istore_n 2, 1) := by decide +kernel
theorem dX0_open_2 : decode cX0_open 2 = .ok (.iconst 0, 1) := by decide +kernel
theorem dX0_open_3 : decode cX0_open 3 = .ok (.istore_n 3, 1) := by decide +kernel
theorem dX0_open_4 : decode cX0_open 4 = .ok (.iload_n 3, 1) := by decide +kernel
theorem dX0_open_5 : decode cX0_open 5 = .ok (.aload_n 0, 1) := by decide +kernel
theorem dX0_open_6 : decode cX0_open 6 = .ok (.getfield 19, 3) := by decide +kernel
theorem dX0_open_9 : decode cX0_open 9 = .ok (.if_icmp .ge 35, 3) := by decide +kernel
theorem dX0_open_12 : decode cX0_open 12 = .ok (.aload_n 0, 1) := by decide +kernel
theorem dX0_open_13 : decode cX0_open 13 = .ok (.iload_n 3, 1) := by decide +kernel
theorem dX0_open_14 : decode cX0_open 14 = .ok (.bipush 6, 2) := by decide +kernel
theorem dX0_open_16 : decode cX0_open 16 = .ok (.invokevirtual 30, 3) := by decide +kernel
theorem dX0_open_19 : decode cX0_open 19 = .ok (.ifCond .ne 19, 3) := by decide +kernel
theorem dX0_open_22 : decode cX0_open 22 = .ok (.aload_n 0, 1) := by decide +kernel
theorem dX0_open_23 : decode cX0_open 23 = .ok (.iload_n 3, 1) := by decide +kernel
theorem dX0_open_24 : decode cX0_open 24 = .ok (.iconst 3, 1) := by decide +kernel
theorem dX0_open_25 : decode cX0_open 25 = .ok (.invokevirtual 30, 3) := by decide +kernel
theorem dX0_open_28 : decode cX0_open 28 = .ok (.iload_n 1, 1) := by decide +kernel
theorem dX0_open_29 : decode cX0_open 29 = .ok (.if_icmp .lt 9, 3) := by decide +kernel
theorem dX0_open_32 : decode cX0_open 32 = .ok (.iload_n 2, 1) := by decide +kernel
theorem dX0_open_33 : decode cX0_open 33 = .ok (.iconst 1, 1) := by decide +kernel
theorem dX0_open_34 : decode cX0_open 34 = .ok (.iload_n 3, 1) := by decide +kernel
theorem dX0_open_35 : decode cX0_open 35 = .ok (.ishl, 1) := by decide +kernel
theorem dX0_open_36 : decode cX0_open 36 = .ok (.ior, 1) := by decide +kernel
theorem dX0_open_37 : decode cX0_open 37 = .ok (.istore_n 2, 1) := by decide +kernel
theorem dX0_open_38 : decode cX0_open 38 = .ok (.iinc 3 1, 3) := by decide +kernel
theorem dX0_open_41 : decode cX0_open 41 = .ok (.goto (-37), 3) := by decide +kernel
theorem dX0_open_44 : decode cX0_open 44 = .ok (.iload_n 2, 1) := by decide +kernel
theorem dX0_open_45 : decode cX0_open 45 = .ok (.ireturn, 1) := by decide +kernel
theorem dX0_spread_0 : decode cX0_spread 0 = .ok (.iload_n 2, 1) := by decide +kernel
theorem dX0_spread_1 : decode cX0_spread 1 = .ok (.istore_n 3, 1) := by decide +kernel
theorem dX0_spread_2 : decode cX0_spread 2 = .ok (.iconst 0, 1) := by decide +kernel
theorem dX0_spread_3 : decode cX0_spread 3 = .ok (.istore 4, 2) := by decide +kernel
theorem dX0_spread_5 : decode cX0_spread 5 = .ok (.iload 4, 2) := by decide +kernel
theorem dX0_spread_7 : decode cX0_spread 7 = .ok (.bipush 6, 2) := by decide +kernel
theorem dX0_spread_9 : decode cX0_spread 9 = .ok (.if_icmp .ge 77, 3) := by decide +kernel
theorem dX0_spread_12 : decode cX0_spread 12 = .ok (.iload_n 3, 1) := by decide +kernel
theorem dX0_spread_13 : decode cX0_spread 13 = .ok (.istore 5, 2) := by decide +kernel
theorem dX0_spread_15 : decode cX0_spread 15 = .ok (.bipush 7, 2) := by decide +kernel
theorem dX0_spread_17 : decode cX0_spread 17 = .ok (.istore 6, 2) := by decide +kernel
theorem dX0_spread_19 : decode cX0_spread 19 = .ok (.iconst 0, 1) := by decide +kernel
theorem dX0_spread_20 : decode cX0_spread 20 = .ok (.istore 7, 2) := by decide +kernel
theorem dX0_spread_22 : decode cX0_spread 22 = .ok (.iload 6, 2) := by decide +kernel
theorem dX0_spread_24 : decode cX0_spread 24 = .ok (.aload_n 0, 1) := by decide +kernel
theorem dX0_spread_25 : decode cX0_spread 25 = .ok (.getfield 11, 3) := by decide +kernel
theorem dX0_spread_28 : decode cX0_spread 28 = .ok (.arraylength, 1) := by decide +kernel
theorem dX0_spread_29 : decode cX0_spread 29 = .ok (.if_icmp .ge 43, 3) := by decide +kernel
theorem dX0_spread_32 : decode cX0_spread 32 = .ok (.iload_n 1, 1) := by decide +kernel
theorem dX0_spread_33 : decode cX0_spread 33 = .ok (.iload 7, 2) := by decide +kernel
theorem dX0_spread_35 : decode cX0_spread 35 = .ok (.ishr, 1) := by decide +kernel
theorem dX0_spread_36 : decode cX0_spread 36 = .ok (.iconst 1, 1) := by decide +kernel
theorem dX0_spread_37 : decode cX0_spread 37 = .ok (.iand, 1) := by decide +kernel
theorem dX0_spread_38 : decode cX0_spread 38 = .ok (.ifCond .eq 25, 3) := by decide +kernel
theorem dX0_spread_41 : decode cX0_spread 41 = .ok (.aload_n 0, 1) := by decide +kernel
theorem dX0_spread_42 : decode cX0_spread 42 = .ok (.getfield 11, 3) := by decide +kernel
theorem dX0_spread_45 : decode cX0_spread 45 = .ok (.iload 6, 2) := by decide +kernel
theorem dX0_spread_47 : decode cX0_spread 47 = .ok (.iaload, 1) := by decide +kernel
theorem dX0_spread_48 : decode cX0_spread 48 = .ok (.iload_n 3, 1) := by decide +kernel
theorem dX0_spread_49 : decode cX0_spread 49 = .ok (.iand, 1) := by decide +kernel
theorem dX0_spread_50 : decode cX0_spread 50 = .ok (.ifCond .eq 13, 3) := by decide +kernel
theorem dX0_spread_53 : decode cX0_spread 53 = .ok (.iload_n 3, 1) := by decide +kernel
theorem dX0_spread_54 : decode cX0_spread 54 = .ok (.aload_n 0, 1) := by decide +kernel
theorem dX0_spread_55 : decode cX0_spread 55 = .ok (.getfield 11, 3) := by decide +kernel
theorem dX0_spread_58 : decode cX0_spread 58 = .ok (.iload 6, 2) := by decide +kernel
theorem dX0_spread_60 : decode cX0_spread 60 = .ok (.iaload, 1) := by decide +kernel
theorem dX0_spread_61 : decode cX0_spread 61 = .ok (.ior, 1) := by decide +kernel
theorem dX0_spread_62 : decode cX0_spread 62 = .ok (.istore_n 3, 1) := by decide +kernel
theorem dX0_spread_63 : decode cX0_spread 63 = .ok (.iinc 6 8, 3) := by decide +kernel
theorem dX0_spread_66 : decode cX0_spread 66 = .ok (.iinc 7 1, 3) := by decide +kernel
theorem dX0_spread_69 : decode cX0_spread 69 = .ok (.goto (-47), 3) := by decide +kernel
theorem dX0_spread_72 : decode cX0_spread 72 = .ok (.iload_n 3, 1) := by decide +kernel
theorem dX0_spread_73 : decode cX0_spread 73 = .ok (.iload 5, 2) := by decide +kernel
theorem dX0_spread_75 : decode cX0_spread 75 = .ok (.if_icmp .ne 5, 3) := by decide +kernel
theorem dX0_spread_78 : decode cX0_spread 78 = .ok (.iload_n 3, 1) := by decide +kernel
theorem dX0_spread_79 : decode cX0_spread 79 = .ok (.ireturn, 1) := by decide +kernel
theorem dX0_spread_80 : decode cX0_spread 80 = .ok (.iinc 4 1, 3) := by decide +kernel
theorem dX0_spread_83 : decode cX0_spread 83 = .ok (.goto (-78), 3) := by decide +kernel
theorem dX0_spread_86 : decode cX0_spread 86 = .ok (.iload_n 3, 1) := by decide +kernel
theorem dX0_spread_87 : decode cX0_spread 87 = .ok (.ireturn, 1) := by decide +kernel
set_option maxRecDepth 20000 in
theorem ggX0_touching_X0_get : GoodIn wsX0_touching wsX0_get := goodIn_r _ [6, 7, 8, 9, 10] (by decide +kernel) (by decide +kernel)
set_option maxRecDepth 20000 in
theorem gX0_touching_X0_get : GoodIn wsX0_touching (wsV RX0 30 RX0 yX0_get wsX0_get) := goodIn_app (goodIn_of _ (by decide +kernel)) ggX0_touching_X0_get
theorem dX0_touching_0 : decode cX0_touching 0 = .ok (.iconst 0, 1) := by decide +kernel
theorem dX0_touching_1 : decode cX0_touching 1 = .ok (.istore_n 2, 1) := by decide +kernel
theorem dX0_touching_2 : decode cX0_touching 2 = .ok (.iconst 0, 1) := by decide +kernel
theorem dX0_touching_3 : decode cX0_touching 3 = .ok (.istore_n 3, 1) := by decide +kernel
theorem dX0_touching_4 : decode cX0_touching 4 = .ok (.iload_n 3, 1) := by decide +kernel
theorem dX0_touching_5 : decode cX0_touching 5 = .ok (.aload_n 0, 1) := by decide +kernel
theorem dX0_touching_6 : decode cX0_touching 6 = .ok (.getfield 19, 3) := by decide +kernel
theorem dX0_touching_9 : decode cX0_touching 9 = .ok (.if_icmp .ge 27, 3) := by decide +kernel
theorem dX0_touching_12 : decode cX0_touching 12 = .ok (.aload_n 0, 1) := by decide +kernel
theorem dX0_touching_13 : decode cX0_touching 13 = .ok (.iload_n 3, 1) := by decide +kernel
theorem dX0_touching_14 : decode cX0_touching 14 = .ok (.bipush 7, 2) := by decide +kernel
theorem dX0_touching_16 : decode cX0_touching 16 = .ok (.invokevirtual 30, 3) := by decide +kernel
theorem dX0_touching_19 : decode cX0_touching 19 = .ok (.iload_n 1, 1) := by decide +kernel
theorem dX0_touching_20 : decode cX0_touching 20 = .ok (.iand, 1) := by decide +kernel
theorem dX0_touching_21 : decode cX0_touching 21 = .ok (.ifCond .eq 9, 3) := by decide +kernel
theorem dX0_touching_24 : decode cX0_touching 24 = .ok (.iload_n 2, 1) := by decide +kernel
theorem dX0_touching_25 : decode cX0_touching 25 = .ok (.iconst 1, 1) := by decide +kernel
theorem dX0_touching_26 : decode cX0_touching 26 = .ok (.iload_n 3, 1) := by decide +kernel
theorem dX0_touching_27 : decode cX0_touching 27 = .ok (.ishl, 1) := by decide +kernel
theorem dX0_touching_28 : decode cX0_touching 28 = .ok (.ior, 1) := by decide +kernel
theorem dX0_touching_29 : decode cX0_touching 29 = .ok (.istore_n 2, 1) := by decide +kernel
theorem dX0_touching_30 : decode cX0_touching 30 = .ok (.iinc 3 1, 3) := by decide +kernel
theorem dX0_touching_33 : decode cX0_touching 33 = .ok (.goto (-29), 3) := by decide +kernel
theorem dX0_touching_36 : decode cX0_touching 36 = .ok (.iload_n 2, 1) := by decide +kernel
theorem dX0_touching_37 : decode cX0_touching 37 = .ok (.ireturn, 1) := by decide +kernel
set_option maxRecDepth 20000 in
theorem ggX0_leaving_X0_get : GoodIn wsX0_leaving wsX0_get := goodIn_r _ [6, 7, 8, 9, 10] (by decide +kernel) (by decide +kernel)
set_option maxRecDepth 20000 in
theorem gX0_leaving_X0_get : GoodIn wsX0_leaving (wsV RX0 30 RX0 yX0_get wsX0_get) := goodIn_app (goodIn_of _ (by decide +kernel)) ggX0_leaving_X0_get
theorem dX0_leaving_0 : decode cX0_leaving 0 = .ok (.iconst 0, 1) := by decide +kernel
theorem dX0_leaving_1 : decode cX0_leaving 1 = .ok (.istore_n 2, 1) := by decide +kernel
theorem dX0_leaving_2 : decode cX0_leaving 2 = .ok (.iload_n 2, 1) := by decide +kernel
theorem dX0_leaving_3 : decode cX0_leaving 3 = .ok (.aload_n 0, 1) := by decide +kernel
theorem dX0_leaving_4 : decode cX0_leaving 4 = .ok (.getfield 19, 3) := by decide +kernel
theorem dX0_leaving_7 : decode cX0_leaving 7 = .ok (.if_icmp .ge 33, 3) := by decide +kernel
theorem dX0_leaving_10 : decode cX0_leaving 10 = .ok (.aload_n 0, 1) := by decide +kernel
theorem dX0_leaving_11 : decode cX0_leaving 11 = .ok (.iload_n 2, 1) := by decide +kernel
theorem dX0_leaving_12 : decode cX0_leaving 12 = .ok (.bipush 7, 2) := by decide +kernel
theorem dX0_leaving_14 : decode cX0_leaving 14 = .ok (.invokevirtual 30, 3) := by decide +kernel
theorem dX0_leaving_17 : decode cX0_leaving 17 = .ok (.istore_n 3, 1) := by decide +kernel
theorem dX0_leaving_18 : decode cX0_leaving 18 = .ok (.iload_n 3, 1) := by decide +kernel
theorem dX0_leaving_19 : decode cX0_leaving 19 = .ok (.iload_n 1, 1) := by decide +kernel
theorem dX0_leaving_20 : decode cX0_leaving 20 = .ok (.iand, 1) := by decide +kernel
theorem dX0_leaving_21 : decode cX0_leaving 21 = .ok (.ifCond .eq 13, 3) := by decide +kernel
theorem dX0_leaving_24 : decode cX0_leaving 24 = .ok (.iload_n 3, 1) := by decide +kernel
theorem dX0_leaving_25 : decode cX0_leaving 25 = .ok (.iload_n 1, 1) := by decide +kernel
theorem dX0_leaving_26 : decode cX0_leaving 26 = .ok (.iconst (-1), 1) := by decide +kernel
theorem dX0_leaving_27 : decode cX0_leaving 27 = .ok (.ixor, 1) := by decide +kernel
theorem dX0_leaving_28 : decode cX0_leaving 28 = .ok (.iand, 1) := by decide +kernel
theorem dX0_leaving_29 : decode cX0_leaving 29 = .ok (.ifCond .eq 5, 3) := by decide +kernel
theorem dX0_leaving_32 : decode cX0_leaving 32 = .ok (.iload_n 2, 1) := by decide +kernel
theorem dX0_leaving_33 : decode cX0_leaving 33 = .ok (.ireturn, 1) := by decide +kernel
theorem dX0_leaving_34 : decode cX0_leaving 34 = .ok (.iinc 2 1, 3) := by decide +kernel
theorem dX0_leaving_37 : decode cX0_leaving 37 = .ok (.goto (-35), 3) := by decide +kernel
theorem dX0_leaving_40 : decode cX0_leaving 40 = .ok (.bipush (-9), 2) := by decide +kernel
theorem dX0_leaving_42 : decode cX0_leaving 42 = .ok (.ireturn, 1) := by decide +kernel
set_option maxRecDepth 20000 in
theorem ggX0_connected_X0_all : GoodIn wsX0_connected wsX0_all := goodIn_r _ [5, 6, 12, 13, 14] (by decide +kernel) (by decide +kernel)
set_option maxRecDepth 20000 in
theorem gX0_connected_X0_all : GoodIn wsX0_connected (wsV RX0 52 RX0 yX0_all wsX0_all) := goodIn_app (goodIn_of _ (by decide +kernel)) ggX0_connected_X0_all
set_option maxRecDepth 20000 in
theorem ggX0_connected_X0_spread : GoodIn wsX0_connected wsX0_spread := goodIn_r _ [10, 11, 12, 13, 14] (by decide +kernel) (by decide +kernel)
set_option maxRecDepth 20000 in
theorem gX0_connected_X0_spread : GoodIn wsX0_connected (wsV RX0 56 RX0 yX0_spread wsX0_spread) := goodIn_app (goodIn_of _ (by decide +kernel)) ggX0_connected_X0_spread
theorem dX0_connected_0 : decode cX0_connected 0 = .ok (.aload_n 0, 1) := by decide +kernel
theorem dX0_connected_1 : decode cX0_connected 1 = .ok (.aload_n 0, 1) := by decide +kernel
theorem dX0_connected_2 : decode cX0_connected 2 = .ok (.invokevirtual 52, 3) := by decide +kernel
theorem dX0_connected_5 : decode cX0_connected 5 = .ok (.iconst 1, 1) := by decide +kernel
theorem dX0_connected_6 : decode cX0_connected 6 = .ok (.invokevirtual 56, 3) := by decide +kernel
theorem dX0_connected_9 : decode cX0_connected 9 = .ok (.ireturn, 1) := by decide +kernel
set_option maxRecDepth 20000 in
theorem ggX0_loops_X0_connected : GoodIn wsX0_loops wsX0_connected := goodIn_r _ [5, 6, 7, 8, 4, 9, 10, 11, 12, 13, 14, 15, 31, 32, 33] (by decide +kernel) (by decide +kernel)
set_option maxRecDepth 20000 in
theorem gX0_loops_X0_connected : GoodIn wsX0_loops (wsV RX0 59 RX0 yX0_connected wsX0_connected) := goodIn_app (goodIn_of _ (by decide +kernel)) ggX0_loops_X0_connected
set_option maxRecDepth 20000 in
theorem ggX0_loops_X0_touching : GoodIn wsX0_loops wsX0_touching := goodIn_r _ [19, 10, 20, 21, 22, 4, 23, 15, 31, 32, 33] (by decide +kernel) (by decide +kernel)
set_option maxRecDepth 20000 in
theorem gX0_loops_X0_touching : GoodIn wsX0_loops (wsV RX0 62 RX0 yX0_touching wsX0_touching) := goodIn_app (goodIn_of _ (by decide +kernel)) ggX0_loops_X0_touching
set_option maxRecDepth 20000 in
theorem ggX0_loops_J6_bitCount_0f7a4 : GoodIn wsX0_loops wsJ6_bitCount_0f7a4 := goodIn_r _ [27, 28, 29, 30] (by decide +kernel) (by decide +kernel)
set_option maxRecDepth 20000 in
theorem gX0_loops_J6_bitCount_0f7a4 : GoodIn wsX0_loops (va_wsS RX0 65 yJ6_bitCount_0f7a4 wsJ6_bitCount_0f7a4) := goodIn_app (goodIn_of _ (by decide +kernel)) ggX0_loops_J6_bitCount_0f7a4
theorem dX0_loops_0 : decode cX0_loops 0 = .ok (.aload_n 0, 1) := by decide +kernel
theorem dX0_loops_1 : decode cX0_loops 1 = .ok (.invokevirtual 59, 3) := by decide +kernel
theorem dX0_loops_4 : decode cX0_loops 4 = .ok (.istore_n 1, 1) := by decide +kernel
theorem dX0_loops_5 : decode cX0_loops 5 = .ok (.aload_n 0, 1) := by decide +kernel
theorem dX0_loops_6 : decode cX0_loops 6 = .ok (.iload_n 1, 1) := by decide +kernel
theorem dX0_loops_7 : decode cX0_loops 7 = .ok (.invokevirtual 62, 3) := by decide +kernel
theorem dX0_loops_10 : decode cX0_loops 10 = .ok (.invokestatic 65, 3) := by decide +kernel
theorem dX0_loops_13 : decode cX0_loops 13 = .ok (.iload_n 1, 1) := by decide +kernel
theorem dX0_loops_14 : decode cX0_loops 14 = .ok (.invokestatic 65, 3) := by decide +kernel
theorem dX0_loops_17 : decode cX0_loops 17 = .ok (.isub, 1) := by decide +kernel
theorem dX0_loops_18 : decode cX0_loops 18 = .ok (.iconst 1, 1) := by decide +kernel
theorem dX0_loops_19 : decode cX0_loops 19 = .ok (.iadd, 1) := by decide +kernel
theorem dX0_loops_20 : decode cX0_loops 20 = .ok (.ireturn, 1) := by decide +kernel
set_option maxRecDepth 20000 in
theorem ggX0_spare_X0_connected : GoodIn wsX0_spare wsX0_connected := goodIn_r _ [6, 7, 8, 9, 5, 10, 1, 11, 12, 13, 14, 15, 16, 17, 18] (by decide +kernel) (by decide +kernel)
set_option maxRecDepth 20000 in
theorem gX0_spare_X0_connected : GoodIn wsX0_spare (wsV RX0 59 RX0 yX0_connected wsX0_connected) := goodIn_app (goodIn_of _ (by decide +kernel)) ggX0_spare_X0_connected
set_option maxRecDepth 20000 in
theorem ggX0_spare_X0_all : GoodIn wsX0_spare wsX0_all := goodIn_r _ [10, 1, 16, 17, 18] (by decide +kernel) (by decide +kernel)
set_option maxRecDepth 20000 in
theorem gX0_spare_X0_all : GoodIn wsX0_spare (wsV RX0 52 RX0 yX0_all wsX0_all) := goodIn_app (goodIn_of _ (by decide +kernel)) ggX0_spare_X0_all
set_option maxRecDepth 20000 in
theorem ggX0_spare_X0_spread : GoodIn wsX0_spare wsX0_spread := goodIn_r _ [14, 15, 16, 17, 18] (by decide +kernel) (by decide +kernel)
set_option maxRecDepth 20000 in
theorem gX0_spare_X0_spread : GoodIn wsX0_spare (wsV RX0 56 RX0 yX0_spread wsX0_spread) := goodIn_app (goodIn_of _ (by decide +kernel)) ggX0_spare_X0_spread
theorem dX0_spare_0 : decode cX0_spare 0 = .ok (.iconst 0, 1) := by decide +kernel
theorem dX0_spare_1 : decode cX0_spare 1 = .ok (.istore_n 1, 1) := by decide +kernel
theorem dX0_spare_2 : decode cX0_spare 2 = .ok (.aload_n 0, 1) := by decide +kernel
theorem dX0_spare_3 : decode cX0_spare 3 = .ok (.invokevirtual 59, 3) := by decide +kernel
theorem dX0_spare_6 : decode cX0_spare 6 = .ok (.istore_n 2, 1) := by decide +kernel
theorem dX0_spare_7 : decode cX0_spare 7 = .ok (.iconst 0, 1) := by decide +kernel
theorem dX0_spare_8 : decode cX0_spare 8 = .ok (.istore_n 3, 1) := by decide +kernel
theorem dX0_spare_9 : decode cX0_spare 9 = .ok (.iload_n 3, 1) := by decide +kernel
theorem dX0_spare_10 : decode cX0_spare 10 = .ok (.aload_n 0, 1) := by decide +kernel
theorem dX0_spare_11 : decode cX0_spare 11 = .ok (.getfield 19, 3) := by decide +kernel
theorem dX0_spare_14 : decode cX0_spare 14 = .ok (.if_icmp .ge 34, 3) := by decide +kernel
theorem dX0_spare_17 : decode cX0_spare 17 = .ok (.aload_n 0, 1) := by decide +kernel
theorem dX0_spare_18 : decode cX0_spare 18 = .ok (.aload_n 0, 1) := by decide +kernel
theorem dX0_spare_19 : decode cX0_spare 19 = .ok (.invokevirtual 52, 3) := by decide +kernel
theorem dX0_spare_22 : decode cX0_spare 22 = .ok (.iconst 1, 1) := by decide +kernel
theorem dX0_spare_23 : decode cX0_spare 23 = .ok (.iload_n 3, 1) := by decide +kernel
theorem dX0_spare_24 : decode cX0_spare 24 = .ok (.ishl, 1) := by decide +kernel
theorem dX0_spare_25 : decode cX0_spare 25 = .ok (.iconst (-1), 1) := by decide +kernel
theorem dX0_spare_26 : decode cX0_spare 26 = .ok (.ixor, 1) := by decide +kernel
theorem dX0_spare_27 : decode cX0_spare 27 = .ok (.iand, 1) := by decide +kernel
theorem dX0_spare_28 : decode cX0_spare 28 = .ok (.iconst 1, 1) := by decide +kernel
theorem dX0_spare_29 : decode cX0_spare 29 = .ok (.invokevirtual 56, 3) := by decide +kernel
theorem dX0_spare_32 : decode cX0_spare 32 = .ok (.iload_n 2, 1) := by decide +kernel
theorem dX0_spare_33 : decode cX0_spare 33 = .ok (.if_icmp .ne 9, 3) := by decide +kernel
theorem dX0_spare_36 : decode cX0_spare 36 = .ok (.iload_n 1, 1) := by decide +kernel
theorem dX0_spare_37 : decode cX0_spare 37 = .ok (.iconst 1, 1) := by decide +kernel
theorem dX0_spare_38 : decode cX0_spare 38 = .ok (.iload_n 3, 1) := by decide +kernel
theorem dX0_spare_39 : decode cX0_spare 39 = .ok (.ishl, 1) := by decide +kernel
theorem dX0_spare_40 : decode cX0_spare 40 = .ok (.ior, 1) := by decide +kernel
theorem dX0_spare_41 : decode cX0_spare 41 = .ok (.istore_n 1, 1) := by decide +kernel
theorem dX0_spare_42 : decode cX0_spare 42 = .ok (.iinc 3 1, 3) := by decide +kernel
theorem dX0_spare_45 : decode cX0_spare 45 = .ok (.goto (-36), 3) := by decide +kernel
theorem dX0_spare_48 : decode cX0_spare 48 = .ok (.iload_n 1, 1) := by decide +kernel
theorem dX0_spare_49 : decode cX0_spare 49 = .ok (.ireturn, 1) := by decide +kernel
set_option maxRecDepth 20000 in
theorem ggX0_reached_X0_open : GoodIn wsX0_reached wsX0_open := goodIn_r _ [5, 6, 7, 8, 9, 4, 10, 11, 16, 17, 18] (by decide +kernel) (by decide +kernel)
set_option maxRecDepth 20000 in
theorem gX0_reached_X0_open : GoodIn wsX0_reached (wsV RX0 70 RX0 yX0_open wsX0_open) := goodIn_app (goodIn_of _ (by decide +kernel)) ggX0_reached_X0_open
set_option maxRecDepth 20000 in
theorem ggX0_reached_X0_spread : GoodIn wsX0_reached wsX0_spread := goodIn_r _ [15, 11, 16, 17, 18] (by decide +kernel) (by decide +kernel)
set_option maxRecDepth 20000 in
theorem gX0_reached_X0_spread : GoodIn wsX0_reached (wsV RX0 56 RX0 yX0_spread wsX0_spread) := goodIn_app (goodIn_of _ (by decide +kernel)) ggX0_reached_X0_spread
theorem dX0_reached_0 : decode cX0_reached 0 = .ok (.aload_n 0, 1) := by decide +kernel
theorem dX0_reached_1 : decode cX0_reached 1 = .ok (.aload_n 0, 1) := by decide +kernel
theorem dX0_reached_2 : decode cX0_reached 2 = .ok (.iload_n 1, 1) := by decide +kernel
theorem dX0_reached_3 : decode cX0_reached 3 = .ok (.invokevirtual 70, 3) := by decide +kernel
theorem dX0_reached_6 : decode cX0_reached 6 = .ok (.iconst 1, 1) := by decide +kernel
theorem dX0_reached_7 : decode cX0_reached 7 = .ok (.invokevirtual 56, 3) := by decide +kernel
theorem dX0_reached_10 : decode cX0_reached 10 = .ok (.ireturn, 1) := by decide +kernel
set_option maxRecDepth 20000 in
theorem ggX0_greatestWidth_X0_open : GoodIn wsX0_greatestWidth wsX0_open := goodIn_r _ [5, 6, 7, 8, 9, 4, 10, 11, 19, 20, 21] (by decide +kernel) (by decide +kernel)
set_option maxRecDepth 20000 in
theorem gX0_greatestWidth_X0_open : GoodIn wsX0_greatestWidth (wsV RX0 70 RX0 yX0_open wsX0_open) := goodIn_app (goodIn_of _ (by decide +kernel)) ggX0_greatestWidth_X0_open
set_option maxRecDepth 20000 in
theorem ggX0_greatestWidth_X0_spread : GoodIn wsX0_greatestWidth wsX0_spread := goodIn_r _ [15, 11, 19, 20, 21] (by decide +kernel) (by decide +kernel)
set_option maxRecDepth 20000 in
theorem gX0_greatestWidth_X0_spread : GoodIn wsX0_greatestWidth (wsV RX0 56 RX0 yX0_spread wsX0_spread) := goodIn_app (goodIn_of _ (by decide +kernel)) ggX0_greatestWidth_X0_spread
set_option maxRecDepth 20000 in
theorem ggX0_greatestWidth_X5_holds : GoodIn wsX0_greatestWidth wsX5_holds := goodIn_r _ [18] (by decide +kernel) (by decide +kernel)
set_option maxRecDepth 20000 in
theorem gX0_greatestWidth_X5_holds_n73 : GoodIn wsX0_greatestWidth (wsX5_holds) := ggX0_greatestWidth_X5_holds
theorem dX0_greatestWidth_0 : decode cX0_greatestWidth 0 = .ok (.iload_n 2, 1) := by decide +kernel
theorem dX0_greatestWidth_1 : decode cX0_greatestWidth 1 = .ok (.iload_n 3, 1) := by decide +kernel
theorem dX0_greatestWidth_2 : decode cX0_greatestWidth 2 = .ok (.if_icmp .ne 6, 3) := by decide +kernel
theorem dX0_greatestWidth_5 : decode cX0_greatestWidth 5 = .ok (.bipush 10, 2) := by decide +kernel
theorem dX0_greatestWidth_7 : decode cX0_greatestWidth 7 = .ok (.ireturn, 1) := by decide +kernel
theorem dX0_greatestWidth_8 : decode cX0_greatestWidth 8 = .ok (.bipush 9, 2) := by decide +kernel
theorem dX0_greatestWidth_10 : decode cX0_greatestWidth 10 = .ok (.istore 4, 2) := by decide +kernel
theorem dX0_greatestWidth_12 : decode cX0_greatestWidth 12 = .ok (.iload 4, 2) := by decide +kernel
theorem dX0_greatestWidth_14 : decode cX0_greatestWidth 14 = .ok (.ifCond .le 34, 3) := by decide +kernel
theorem dX0_greatestWidth_17 : decode cX0_greatestWidth 17 = .ok (.aload_n 0, 1) := by decide +kernel
theorem dX0_greatestWidth_18 : decode cX0_greatestWidth 18 = .ok (.iload_n 1, 1) := by decide +kernel
theorem dX0_greatestWidth_19 : decode cX0_greatestWidth 19 = .ok (.aload_n 0, 1) := by decide +kernel
theorem dX0_greatestWidth_20 : decode cX0_greatestWidth 20 = .ok (.iload 4, 2) := by decide +kernel
theorem dX0_greatestWidth_22 : decode cX0_greatestWidth 22 = .ok (.invokevirtual 70, 3) := by decide +kernel
theorem dX0_greatestWidth_25 : decode cX0_greatestWidth 25 = .ok (.iand, 1) := by decide +kernel
theorem dX0_greatestWidth_26 : decode cX0_greatestWidth 26 = .ok (.iconst 1, 1) := by decide +kernel
theorem dX0_greatestWidth_27 : decode cX0_greatestWidth 27 = .ok (.iload_n 2, 1) := by decide +kernel
theorem dX0_greatestWidth_28 : decode cX0_greatestWidth 28 = .ok (.ishl, 1) := by decide +kernel
theorem dX0_greatestWidth_29 : decode cX0_greatestWidth 29 = .ok (.invokevirtual 56, 3) := by decide +kernel
theorem dX0_greatestWidth_32 : decode cX0_greatestWidth 32 = .ok (.iload_n 3, 1) := by decide +kernel
theorem dX0_greatestWidth_33 : decode cX0_greatestWidth 33 = .ok (.invokestatic 73, 3) := by decide +kernel
theorem dX0_greatestWidth_36 : decode cX0_greatestWidth 36 = .ok (.ifCond .eq 6, 3) := by decide +kernel
theorem dX0_greatestWidth_39 : decode cX0_greatestWidth 39 = .ok (.iload 4, 2) := by decide +kernel
theorem dX0_greatestWidth_41 : decode cX0_greatestWidth 41 = .ok (.ireturn, 1) := by decide +kernel
theorem dX0_greatestWidth_42 : decode cX0_greatestWidth 42 = .ok (.iinc 4 (-1), 3) := by decide +kernel
theorem dX0_greatestWidth_45 : decode cX0_greatestWidth 45 = .ok (.goto (-33), 3) := by decide +kernel
theorem dX0_greatestWidth_48 : decode cX0_greatestWidth 48 = .ok (.iconst 0, 1) := by decide +kernel
theorem dX0_greatestWidth_49 : decode cX0_greatestWidth 49 = .ok (.ireturn, 1) := by decide +kernel
theorem dX1_init_0 : decode cX1_init 0 = .ok (.aload_n 0, 1) := by decide +kernel
theorem dX1_init_1 : decode cX1_init 1 = .ok (.invokespecial 3, 3) := by decide +kernel
theorem dX1_init_4 : decode cX1_init 4 = .ok (.aload_n 0, 1) := by decide +kernel
theorem dX1_init_5 : decode cX1_init 5 = .ok (.bipush 14, 2) := by decide +kernel
theorem dX1_init_7 : decode cX1_init 7 = .ok (.anewarray 9, 3) := by decide +kernel
theorem dX1_init_10 : decode cX1_init 10 = .ok (.putfield 11, 3) := by decide +kernel
theorem dX1_init_13 : decode cX1_init 13 = .ok (.return_, 1) := by decide +kernel
theorem dX1_forget_0 : decode cX1_forget 0 = .ok (.aload_n 0, 1) := by decide +kernel
theorem dX1_forget_1 : decode cX1_forget 1 = .ok (.iconst 0, 1) := by decide +kernel
theorem dX1_forget_2 : decode cX1_forget 2 = .ok (.putfield 17, 3) := by decide +kernel
theorem dX1_forget_5 : decode cX1_forget 5 = .ok (.return_, 1) := by decide +kernel
set_option maxRecDepth 20000 in
theorem ggX1_remember_X0_init : GoodIn wsX1_remember wsX0_init := goodIn_r _ [12, 13, 14, 15, 16, 17, 18, 27, 28, 29] (by decide +kernel) (by decide +kernel)
set_option maxRecDepth 20000 in
theorem gX1_remember_X0_init_n24 : GoodIn wsX1_remember (wsX0_init) := ggX1_remember_X0_init
set_option maxRecDepth 20000 in
theorem ggX1_remember_X0_copy : GoodIn wsX1_remember wsX0_copy := goodIn_r _ [22, 17, 23, 18, 27, 28, 29] (by decide +kernel) (by decide +kernel)
set_option maxRecDepth 20000 in
theorem gX1_remember_X0_copy : GoodIn wsX1_remember (wsV RX1 25 RX0 yX0_copy wsX0_copy) := goodIn_app (goodIn_of _ (by decide +kernel)) ggX1_remember_X0_copy
theorem dX1_remember_0 : decode cX1_remember 0 = .ok (.aload_n 0, 1) := by decide +kernel
theorem dX1_remember_1 : decode cX1_remember 1 = .ok (.getfield 21, 3) := by decide +kernel
theorem dX1_remember_4 : decode cX1_remember 4 = .ok (.ifCond .lt 15, 3) := by decide +kernel
theorem dX1_remember_7 : decode cX1_remember 7 = .ok (.aload_n 0, 1) := by decide +kernel
theorem dX1_remember_8 : decode cX1_remember 8 = .ok (.getfield 21, 3) := by decide +kernel
theorem dX1_remember_11 : decode cX1_remember 11 = .ok (.aload_n 0, 1) := by decide +kernel
theorem dX1_remember_12 : decode cX1_remember 12 = .ok (.getfield 11, 3) := by decide +kernel
theorem dX1_remember_15 : decode cX1_remember 15 = .ok (.arraylength, 1) := by decide +kernel
theorem dX1_remember_16 : decode cX1_remember 16 = .ok (.if_icmp .lt 4, 3) := by decide +kernel
theorem dX1_remember_19 : decode cX1_remember 19 = .ok (.return_, 1) := by decide +kernel
theorem dX1_remember_20 : decode cX1_remember 20 = .ok (.aload_n 0, 1) := by decide +kernel
theorem dX1_remember_21 : decode cX1_remember 21 = .ok (.getfield 11, 3) := by decide +kernel
theorem dX1_remember_24 : decode cX1_remember 24 = .ok (.aload_n 0, 1) := by decide +kernel
theorem dX1_remember_25 : decode cX1_remember 25 = .ok (.getfield 21, 3) := by decide +kernel
theorem dX1_remember_28 : decode cX1_remember 28 = .ok (.aaload, 1) := by decide +kernel
theorem dX1_remember_29 : decode cX1_remember 29 = .ok (.ifnonnull 19, 3) := by decide +kernel
theorem dX1_remember_32 : decode cX1_remember 32 = .ok (.aload_n 0, 1) := by decide +kernel
theorem dX1_remember_33 : decode cX1_remember 33 = .ok (.getfield 11, 3) := by decide +kernel
theorem dX1_remember_36 : decode cX1_remember 36 = .ok (.aload_n 0, 1) := by decide +kernel
theorem dX1_remember_37 : decode cX1_remember 37 = .ok (.getfield 21, 3) := by decide +kernel
theorem dX1_remember_40 : decode cX1_remember 40 = .ok (.new 9, 3) := by decide +kernel
theorem dX1_remember_43 : decode cX1_remember 43 = .ok (.dup, 1) := by decide +kernel
theorem dX1_remember_44 : decode cX1_remember 44 = .ok (.invokespecial 24, 3) := by decide +kernel
theorem dX1_remember_47 : decode cX1_remember 47 = .ok (.aastore, 1) := by decide +kernel
theorem dX1_remember_48 : decode cX1_remember 48 = .ok (.aload_n 0, 1) := by decide +kernel
theorem dX1_remember_49 : decode cX1_remember 49 = .ok (.getfield 11, 3) := by decide +kernel
theorem dX1_remember_52 : decode cX1_remember 52 = .ok (.aload_n 0, 1) := by decide +kernel
theorem dX1_remember_53 : decode cX1_remember 53 = .ok (.getfield 21, 3) := by decide +kernel
theorem dX1_remember_56 : decode cX1_remember 56 = .ok (.aaload, 1) := by decide +kernel
theorem dX1_remember_57 : decode cX1_remember 57 = .ok (.aload_n 1, 1) := by decide +kernel
theorem dX1_remember_58 : decode cX1_remember 58 = .ok (.invokevirtual 25, 3) := by decide +kernel
theorem dX1_remember_61 : decode cX1_remember 61 = .ok (.aload_n 0, 1) := by decide +kernel
theorem dX1_remember_62 : decode cX1_remember 62 = .ok (.aload_n 0, 1) := by decide +kernel
theorem dX1_remember_63 : decode cX1_remember 63 = .ok (.getfield 21, 3) := by decide +kernel
theorem dX1_remember_66 : decode cX1_remember 66 = .ok (.iconst 1, 1) := by decide +kernel
theorem dX1_remember_67 : decode cX1_remember 67 = .ok (.iadd, 1) := by decide +kernel
theorem dX1_remember_68 : decode cX1_remember 68 = .ok (.bipush 14, 2) := by decide +kernel
theorem dX1_remember_70 : decode cX1_remember 70 = .ok (.irem, 1) := by decide +kernel
theorem dX1_remember_71 : decode cX1_remember 71 = .ok (.putfield 21, 3) := by decide +kernel
theorem dX1_remember_74 : decode cX1_remember 74 = .ok (.aload_n 0, 1) := by decide +kernel
theorem dX1_remember_75 : decode cX1_remember 75 = .ok (.aload_n 0, 1) := by decide +kernel
theorem dX1_remember_76 : decode cX1_remember 76 = .ok (.getfield 17, 3) := by decide +kernel
theorem dX1_remember_79 : decode cX1_remember 79 = .ok (.iconst 1, 1) := by decide +kernel
theorem dX1_remember_80 : decode cX1_remember 80 = .ok (.iadd, 1) := by decide +kernel
theorem dX1_remember_81 : decode cX1_remember 81 = .ok (.bipush 14, 2) := by decide +kernel
theorem dX1_remember_83 : decode cX1_remember 83 = .ok (.invokestatic 29, 3) := by decide +kernel
theorem dX1_remember_86 : decode cX1_remember 86 = .ok (.putfield 17, 3) := by decide +kernel
theorem dX1_remember_89 : decode cX1_remember 89 = .ok (.return_, 1) := by decide +kernel
set_option maxRecDepth 20000 in
theorem ggX1_restore_X0_copy : GoodIn wsX1_restore wsX0_copy := goodIn_r _ [8, 9, 10, 11, 15, 16, 17] (by decide +kernel) (by decide +kernel)
set_option maxRecDepth 20000 in
theorem gX1_restore_X0_copy : GoodIn wsX1_restore (wsV RX1 25 RX0 yX0_copy wsX0_copy) := goodIn_app (goodIn_of _ (by decide +kernel)) ggX1_restore_X0_copy
theorem dX1_restore_0 : decode cX1_restore 0 = .ok (.aload_n 0, 1) := by decide +kernel
theorem dX1_restore_1 : decode cX1_restore 1 = .ok (.getfield 21, 3) := by decide +kernel
theorem dX1_restore_4 : decode cX1_restore 4 = .ok (.bipush 14, 2) := by decide +kernel
theorem dX1_restore_6 : decode cX1_restore 6 = .ok (.iadd, 1) := by decide +kernel
theorem dX1_restore_7 : decode cX1_restore 7 = .ok (.iconst 1, 1) := by decide +kernel
theorem dX1_restore_8 : decode cX1_restore 8 = .ok (.isub, 1) := by decide +kernel
theorem dX1_restore_9 : decode cX1_restore 9 = .ok (.bipush 14, 2) := by decide +kernel
theorem dX1_restore_11 : decode cX1_restore 11 = .ok (.irem, 1) := by decide +kernel
theorem dX1_restore_12 : decode cX1_restore 12 = .ok (.istore_n 2, 1) := by decide +kernel
theorem dX1_restore_13 : decode cX1_restore 13 = .ok (.aload_n 0, 1) := by decide +kernel
theorem dX1_restore_14 : decode cX1_restore 14 = .ok (.getfield 17, 3) := by decide +kernel
theorem dX1_restore_17 : decode cX1_restore 17 = .ok (.iconst 1, 1) := by decide +kernel
theorem dX1_restore_18 : decode cX1_restore 18 = .ok (.if_icmp .lt 25, 3) := by decide +kernel
theorem dX1_restore_21 : decode cX1_restore 21 = .ok (.iload_n 2, 1) := by decide +kernel
theorem dX1_restore_22 : decode cX1_restore 22 = .ok (.ifCond .lt 21, 3) := by decide +kernel
theorem dX1_restore_25 : decode cX1_restore 25 = .ok (.iload_n 2, 1) := by decide +kernel
theorem dX1_restore_26 : decode cX1_restore 26 = .ok (.aload_n 0, 1) := by decide +kernel
theorem dX1_restore_27 : decode cX1_restore 27 = .ok (.getfield 11, 3) := by decide +kernel
theorem dX1_restore_30 : decode cX1_restore 30 = .ok (.arraylength, 1) := by decide +kernel
theorem dX1_restore_31 : decode cX1_restore 31 = .ok (.if_icmp .ge 12, 3) := by decide +kernel
theorem dX1_restore_34 : decode cX1_restore 34 = .ok (.aload_n 0, 1) := by decide +kernel
theorem dX1_restore_35 : decode cX1_restore 35 = .ok (.getfield 11, 3) := by decide +kernel
theorem dX1_restore_38 : decode cX1_restore 38 = .ok (.iload_n 2, 1) := by decide +kernel
theorem dX1_restore_39 : decode cX1_restore 39 = .ok (.aaload, 1) := by decide +kernel
theorem dX1_restore_40 : decode cX1_restore 40 = .ok (.ifnonnull 5, 3) := by decide +kernel
theorem dX1_restore_43 : decode cX1_restore 43 = .ok (.iconst 0, 1) := by decide +kernel
theorem dX1_restore_44 : decode cX1_restore 44 = .ok (.ireturn, 1) := by decide +kernel
theorem dX1_restore_45 : decode cX1_restore 45 = .ok (.aload_n 1, 1) := by decide +kernel
theorem dX1_restore_46 : decode cX1_restore 46 = .ok (.aload_n 0, 1) := by decide +kernel
theorem dX1_restore_47 : decode cX1_restore 47 = .ok (.getfield 11, 3) := by decide +kernel
theorem dX1_restore_50 : decode cX1_restore 50 = .ok (.iload_n 2, 1) := by decide +kernel
theorem dX1_restore_51 : decode cX1_restore 51 = .ok (.aaload, 1) := by decide +kernel
theorem dX1_restore_52 : decode cX1_restore 52 = .ok (.invokevirtual 25, 3) := by decide +kernel
theorem dX1_restore_55 : decode cX1_restore 55 = .ok (.aload_n 0, 1) := by decide +kernel
theorem dX1_restore_56 : decode cX1_restore 56 = .ok (.iload_n 2, 1) := by decide +kernel
theorem dX1_restore_57 : decode cX1_restore 57 = .ok (.putfield 21, 3) := by decide +kernel
theorem dX1_restore_60 : decode cX1_restore 60 = .ok (.aload_n 0, 1) := by decide +kernel
theorem dX1_restore_61 : decode cX1_restore 61 = .ok (.dup, 1) := by decide +kernel
theorem dX1_restore_62 : decode cX1_restore 62 = .ok (.getfield 17, 3) := by decide +kernel
theorem dX1_restore_65 : decode cX1_restore 65 = .ok (.iconst 1, 1) := by decide +kernel
theorem dX1_restore_66 : decode cX1_restore 66 = .ok (.isub, 1) := by decide +kernel
theorem dX1_restore_67 : decode cX1_restore 67 = .ok (.putfield 17, 3) := by decide +kernel
theorem dX1_restore_70 : decode cX1_restore 70 = .ok (.iconst 1, 1) := by decide +kernel
theorem dX1_restore_71 : decode cX1_restore 71 = .ok (.ireturn, 1) := by decide +kernel
theorem dX2_init_0 : decode cX2_init 0 = .ok (.aload_n 0, 1) := by decide +kernel
theorem dX2_init_1 : decode cX2_init 1 = .ok (.invokespecial 3, 3) := by decide +kernel
theorem dX2_init_4 : decode cX2_init 4 = .ok (.aload_n 0, 1) := by decide +kernel
theorem dX2_init_5 : decode cX2_init 5 = .ok (.bipush 24, 2) := by decide +kernel
theorem dX2_init_7 : decode cX2_init 7 = .ok (.newarray .int, 2) := by decide +kernel
theorem dX2_init_9 : decode cX2_init 9 = .ok (.putfield 11, 3) := by decide +kernel
theorem dX2_init_12 : decode cX2_init 12 = .ok (.return_, 1) := by decide +kernel
theorem dX2_add_0 : decode cX2_add 0 = .ok (.aload_n 0, 1) := by decide +kernel
theorem dX2_add_1 : decode cX2_add 1 = .ok (.getfield 15, 3) := by decide +kernel
theorem dX2_add_4 : decode cX2_add 4 = .ok (.iconst 4, 1) := by decide +kernel
theorem dX2_add_5 : decode cX2_add 5 = .ok (.imul, 1) := by decide +kernel
theorem dX2_add_6 : decode cX2_add 6 = .ok (.istore 5, 2) := by decide +kernel
theorem dX2_add_8 : decode cX2_add 8 = .ok (.iload 5, 2) := by decide +kernel
theorem dX2_add_10 : decode cX2_add 10 = .ok (.ifCond .lt 15, 3) := by decide +kernel
theorem dX2_add_13 : decode cX2_add 13 = .ok (.iload 5, 2) := by decide +kernel
theorem dX2_add_15 : decode cX2_add 15 = .ok (.iconst 4, 1) := by decide +kernel
theorem dX2_add_16 : decode cX2_add 16 = .ok (.iadd, 1) := by decide +kernel
theorem dX2_add_17 : decode cX2_add 17 = .ok (.aload_n 0, 1) := by decide +kernel
theorem dX2_add_18 : decode cX2_add 18 = .ok (.getfield 11, 3) := by decide +kernel
theorem dX2_add_21 : decode cX2_add 21 = .ok (.arraylength, 1) := by decide +kernel
theorem dX2_add_22 : decode cX2_add 22 = .ok (.if_icmp .le 5, 3) := by decide +kernel
theorem dX2_add_25 : decode cX2_add 25 = .ok (.iconst 0, 1) := by decide +kernel
theorem dX2_add_26 : decode cX2_add 26 = .ok (.ireturn, 1) := by decide +kernel
theorem dX2_add_27 : decode cX2_add 27 = .ok (.aload_n 0, 1) := by decide +kernel
theorem dX2_add_28 : decode cX2_add 28 = .ok (.getfield 11, 3) := by decide +kernel
theorem dX2_add_31 : decode cX2_add 31 = .ok (.iload 5, 2) := by decide +kernel
theorem dX2_add_33 : decode cX2_add 33 = .ok (.iload_n 1, 1) := by decide +kernel
theorem dX2_add_34 : decode cX2_add 34 = .ok (.iastore, 1) := by decide +kernel
theorem dX2_add_35 : decode cX2_add 35 = .ok (.aload_n 0, 1) := by decide +kernel
theorem dX2_add_36 : decode cX2_add 36 = .ok (.getfield 11, 3) := by decide +kernel
theorem dX2_add_39 : decode cX2_add 39 = .ok (.iload 5, 2) := by decide +kernel
theorem dX2_add_41 : decode cX2_add 41 = .ok (.iconst 1, 1) := by decide +kernel
theorem dX2_add_42 : decode cX2_add 42 = .ok (.iadd, 1) := by decide +kernel
theorem dX2_add_43 : decode cX2_add 43 = .ok (.iload_n 2, 1) := by decide +kernel
theorem dX2_add_44 : decode cX2_add 44 = .ok (.iastore, 1) := by decide +kernel
theorem dX2_add_45 : decode cX2_add 45 = .ok (.aload_n 0, 1) := by decide +kernel
theorem dX2_add_46 : decode cX2_add 46 = .ok (.getfield 11, 3) := by decide +kernel
theorem dX2_add_49 : decode cX2_add 49 = .ok (.iload 5, 2) := by decide +kernel
theorem dX2_add_51 : decode cX2_add 51 = .ok (.iconst 2, 1) := by decide +kernel
theorem dX2_add_52 : decode cX2_add 52 = .ok (.iadd, 1) := by decide +kernel
theorem dX2_add_53 : decode cX2_add 53 = .ok (.iload_n 3, 1) := by decide +kernel
theorem dX2_add_54 : decode cX2_add 54 = .ok (.iastore, 1) := by decide +kernel
theorem dX2_add_55 : decode cX2_add 55 = .ok (.aload_n 0, 1) := by decide +kernel
theorem dX2_add_56 : decode cX2_add 56 = .ok (.getfield 11, 3) := by decide +kernel
theorem dX2_add_59 : decode cX2_add 59 = .ok (.iload 5, 2) := by decide +kernel
theorem dX2_add_61 : decode cX2_add 61 = .ok (.iconst 3, 1) := by decide +kernel
theorem dX2_add_62 : decode cX2_add 62 = .ok (.iadd, 1) := by decide +kernel
theorem dX2_add_63 : decode cX2_add 63 = .ok (.iload 4, 2) := by decide +kernel
theorem dX2_add_65 : decode cX2_add 65 = .ok (.iastore, 1) := by decide +kernel
theorem dX2_add_66 : decode cX2_add 66 = .ok (.aload_n 0, 1) := by decide +kernel
theorem dX2_add_67 : decode cX2_add 67 = .ok (.dup, 1) := by decide +kernel
theorem dX2_add_68 : decode cX2_add 68 = .ok (.getfield 15, 3) := by decide +kernel
theorem dX2_add_71 : decode cX2_add 71 = .ok (.iconst 1, 1) := by decide +kernel
theorem dX2_add_72 : decode cX2_add 72 = .ok (.iadd, 1) := by decide +kernel
theorem dX2_add_73 : decode cX2_add 73 = .ok (.putfield 15, 3) := by decide +kernel
theorem dX2_add_76 : decode cX2_add 76 = .ok (.iconst 1, 1) := by decide +kernel
theorem dX2_add_77 : decode cX2_add 77 = .ok (.ireturn, 1) := by decide +kernel
set_option maxRecDepth 20000 in
theorem ggX2_fit_X0_hasStation : GoodIn wsX2_fit wsX0_hasStation := goodIn_r _ [7, 8, 32, 33, 34] (by decide +kernel) (by decide +kernel)
set_option maxRecDepth 20000 in
theorem gX2_fit_X0_hasStation : GoodIn wsX2_fit (wsV RX2 19 RX0 yX0_hasStation wsX0_hasStation) := goodIn_app (goodIn_of _ (by decide +kernel)) ggX2_fit_X0_hasStation
set_option maxRecDepth 20000 in
theorem ggX2_fit_X0_greatestWidth : GoodIn wsX2_fit wsX0_greatestWidth := goodIn_r _ [12, 13, 14, 15, 6, 16, 17, 18, 19, 20, 21, 22, 23, 24, 25, 26, 27, 28, 29, 32, 33, 34] (by decide +kernel) (by decide +kernel)
set_option maxRecDepth 20000 in
theorem gX2_fit_X0_greatestWidth : GoodIn wsX2_fit (wsV RX2 25 RX0 yX0_greatestWidth wsX0_greatestWidth) := goodIn_app (goodIn_of _ (by decide +kernel)) ggX2_fit_X0_greatestWidth
theorem dX2_fit_0 : decode cX2_fit 0 = .ok (.iconst 0, 1) := by decide +kernel
theorem dX2_fit_1 : decode cX2_fit 1 = .ok (.istore_n 3, 1) := by decide +kernel
theorem dX2_fit_2 : decode cX2_fit 2 = .ok (.iload_n 3, 1) := by decide +kernel
theorem dX2_fit_3 : decode cX2_fit 3 = .ok (.aload_n 0, 1) := by decide +kernel
theorem dX2_fit_4 : decode cX2_fit 4 = .ok (.getfield 15, 3) := by decide +kernel
theorem dX2_fit_7 : decode cX2_fit 7 = .ok (.iconst 4, 1) := by decide +kernel
theorem dX2_fit_8 : decode cX2_fit 8 = .ok (.imul, 1) := by decide +kernel
theorem dX2_fit_9 : decode cX2_fit 9 = .ok (.if_icmp .ge 107, 3) := by decide +kernel
theorem dX2_fit_12 : decode cX2_fit 12 = .ok (.iload_n 3, 1) := by decide +kernel
theorem dX2_fit_13 : decode cX2_fit 13 = .ok (.iconst 4, 1) := by decide +kernel
theorem dX2_fit_14 : decode cX2_fit 14 = .ok (.iadd, 1) := by decide +kernel
theorem dX2_fit_15 : decode cX2_fit 15 = .ok (.aload_n 0, 1) := by decide +kernel
theorem dX2_fit_16 : decode cX2_fit 16 = .ok (.getfield 11, 3) := by decide +kernel
theorem dX2_fit_19 : decode cX2_fit 19 = .ok (.arraylength, 1) := by decide +kernel
theorem dX2_fit_20 : decode cX2_fit 20 = .ok (.if_icmp .gt 96, 3) := by decide +kernel
theorem dX2_fit_23 : decode cX2_fit 23 = .ok (.aload_n 0, 1) := by decide +kernel
theorem dX2_fit_24 : decode cX2_fit 24 = .ok (.getfield 11, 3) := by decide +kernel
theorem dX2_fit_27 : decode cX2_fit 27 = .ok (.iload_n 3, 1) := by decide +kernel
theorem dX2_fit_28 : decode cX2_fit 28 = .ok (.iaload, 1) := by decide +kernel
theorem dX2_fit_29 : decode cX2_fit 29 = .ok (.istore 4, 2) := by decide +kernel
theorem dX2_fit_31 : decode cX2_fit 31 = .ok (.aload_n 0, 1) := by decide +kernel
theorem dX2_fit_32 : decode cX2_fit 32 = .ok (.getfield 11, 3) := by decide +kernel
theorem dX2_fit_35 : decode cX2_fit 35 = .ok (.iload_n 3, 1) := by decide +kernel
theorem dX2_fit_36 : decode cX2_fit 36 = .ok (.iconst 1, 1) := by decide +kernel
theorem dX2_fit_37 : decode cX2_fit 37 = .ok (.iadd, 1) := by decide +kernel
theorem dX2_fit_38 : decode cX2_fit 38 = .ok (.iaload, 1) := by decide +kernel
theorem dX2_fit_39 : decode cX2_fit 39 = .ok (.istore 5, 2) := by decide +kernel
theorem dX2_fit_41 : decode cX2_fit 41 = .ok (.aload_n 1, 1) := by decide +kernel
theorem dX2_fit_42 : decode cX2_fit 42 = .ok (.iload 4, 2) := by decide +kernel
theorem dX2_fit_44 : decode cX2_fit 44 = .ok (.invokevirtual 19, 3) := by decide +kernel
theorem dX2_fit_47 : decode cX2_fit 47 = .ok (.ifCond .eq 63, 3) := by decide +kernel
theorem dX2_fit_50 : decode cX2_fit 50 = .ok (.aload_n 1, 1) := by decide +kernel
theorem dX2_fit_51 : decode cX2_fit 51 = .ok (.iload 5, 2) := by decide +kernel
theorem dX2_fit_53 : decode cX2_fit 53 = .ok (.invokevirtual 19, 3) := by decide +kernel
theorem dX2_fit_56 : decode cX2_fit 56 = .ok (.ifCond .eq 54, 3) := by decide +kernel
theorem dX2_fit_59 : decode cX2_fit 59 = .ok (.aload_n 1, 1) := by decide +kernel
theorem dX2_fit_60 : decode cX2_fit 60 = .ok (.iload_n 2, 1) := by decide +kernel
theorem dX2_fit_61 : decode cX2_fit 61 = .ok (.iload 4, 2) := by decide +kernel
theorem dX2_fit_63 : decode cX2_fit 63 = .ok (.iload 5, 2) := by decide +kernel
theorem dX2_fit_65 : decode cX2_fit 65 = .ok (.invokevirtual 25, 3) := by decide +kernel
theorem dX2_fit_68 : decode cX2_fit 68 = .ok (.aload_n 0, 1) := by decide +kernel
theorem dX2_fit_69 : decode cX2_fit 69 = .ok (.getfield 11, 3) := by decide +kernel
theorem dX2_fit_72 : decode cX2_fit 72 = .ok (.iload_n 3, 1) := by decide +kernel
theorem dX2_fit_73 : decode cX2_fit 73 = .ok (.iconst 2, 1) := by decide +kernel
theorem dX2_fit_74 : decode cX2_fit 74 = .ok (.iadd, 1) := by decide +kernel
theorem dX2_fit_75 : decode cX2_fit 75 = .ok (.iaload, 1) := by decide +kernel
theorem dX2_fit_76 : decode cX2_fit 76 = .ok (.if_icmp .ne 7, 3) := by decide +kernel
theorem dX2_fit_79 : decode cX2_fit 79 = .ok (.iconst 1, 1) := by decide +kernel
theorem dX2_fit_80 : decode cX2_fit 80 = .ok (.goto 4, 3) := by decide +kernel
theorem dX2_fit_83 : decode cX2_fit 83 = .ok (.iconst 0, 1) := by decide +kernel
theorem dX2_fit_84 : decode cX2_fit 84 = .ok (.istore 6, 2) := by decide +kernel
theorem dX2_fit_86 : decode cX2_fit 86 = .ok (.iload 6, 2) := by decide +kernel
theorem dX2_fit_88 : decode cX2_fit 88 = .ok (.aload_n 0, 1) := by decide +kernel
theorem dX2_fit_89 : decode cX2_fit 89 = .ok (.getfield 11, 3) := by decide +kernel
theorem dX2_fit_92 : decode cX2_fit 92 = .ok (.iload_n 3, 1) := by decide +kernel
theorem dX2_fit_93 : decode cX2_fit 93 = .ok (.iconst 3, 1) := by decide +kernel
theorem dX2_fit_94 : decode cX2_fit 94 = .ok (.iadd, 1) := by decide +kernel
theorem dX2_fit_95 : decode cX2_fit 95 = .ok (.iaload, 1) := by decide +kernel
theorem dX2_fit_96 : decode cX2_fit 96 = .ok (.iconst 1, 1) := by decide +kernel
theorem dX2_fit_97 : decode cX2_fit 97 = .ok (.if_icmp .ne 7, 3) := by decide +kernel
theorem dX2_fit_100 : decode cX2_fit 100 = .ok (.iconst 1, 1) := by decide +kernel
theorem dX2_fit_101 : decode cX2_fit 101 = .ok (.goto 4, 3) := by decide +kernel
theorem dX2_fit_104 : decode cX2_fit 104 = .ok (.iconst 0, 1) := by decide +kernel
theorem dX2_fit_105 : decode cX2_fit 105 = .ok (.if_icmp .eq 5, 3) := by decide +kernel
theorem dX2_fit_108 : decode cX2_fit 108 = .ok (.iconst 0, 1) := by decide +kernel
theorem dX2_fit_109 : decode cX2_fit 109 = .ok (.ireturn, 1) := by decide +kernel
theorem dX2_fit_110 : decode cX2_fit 110 = .ok (.iinc 3 4, 3) := by decide +kernel
theorem dX2_fit_113 : decode cX2_fit 113 = .ok (.goto (-111), 3) := by decide +kernel
theorem dX2_fit_116 : decode cX2_fit 116 = .ok (.iconst 1, 1) := by decide +kernel
theorem dX2_fit_117 : decode cX2_fit 117 = .ok (.ireturn, 1) := by decide +kernel
theorem dX3_init_0 : decode cX3_init 0 = .ok (.aload_n 0, 1) := by decide +kernel
theorem dX3_init_1 : decode cX3_init 1 = .ok (.invokespecial 5, 3) := by decide +kernel
theorem dX3_init_4 : decode cX3_init 4 = .ok (.aload_n 0, 1) := by decide +kernel
theorem dX3_init_5 : decode cX3_init 5 = .ok (.bipush 18, 2) := by decide +kernel
theorem dX3_init_7 : decode cX3_init 7 = .ok (.newarray .int, 2) := by decide +kernel
theorem dX3_init_9 : decode cX3_init 9 = .ok (.putfield 11, 3) := by decide +kernel
theorem dX3_init_12 : decode cX3_init 12 = .ok (.aload_n 0, 1) := by decide +kernel
theorem dX3_init_13 : decode cX3_init 13 = .ok (.bipush 40, 2) := by decide +kernel
theorem dX3_init_15 : decode cX3_init 15 = .ok (.newarray .long, 2) := by decide +kernel
theorem dX3_init_17 : decode cX3_init 17 = .ok (.putfield 15, 3) := by decide +kernel
theorem dX3_init_20 : decode cX3_init 20 = .ok (.aload_n 0, 1) := by decide +kernel
theorem dX3_init_21 : decode cX3_init 21 = .ok (.lconst 1, 1) := by decide +kernel
theorem dX3_init_22 : decode cX3_init 22 = .ok (.putfield 19, 3) := by decide +kernel
theorem dX3_init_25 : decode cX3_init 25 = .ok (.return_, 1) := by decide +kernel
set_option maxRecDepth 20000 in
theorem ggX3_plot_J7_fill_53178 : GoodIn wsX3_plot wsJ7_fill_53178 := goodIn_r _ [5] (by decide +kernel) (by decide +kernel)
set_option maxRecDepth 20000 in
theorem gX3_plot_J7_fill_53178 : GoodIn wsX3_plot (va_wsS RX3 23 yJ7_fill_53178 wsJ7_fill_53178) := goodIn_app (goodIn_of _ (by decide +kernel)) ggX3_plot_J7_fill_53178
set_option maxRecDepth 20000 in
theorem ggX3_plot_X0_leaving : GoodIn wsX3_plot wsX0_leaving := goodIn_r _ [10, 11, 12, 13, 14, 9, 15, 16, 52, 53, 54] (by decide +kernel) (by decide +kernel)
set_option maxRecDepth 20000 in
theorem gX3_plot_X0_leaving : GoodIn wsX3_plot (wsV RX3 29 RX0 yX0_leaving wsX0_leaving) := goodIn_app (goodIn_of _ (by decide +kernel)) ggX3_plot_X0_leaving
set_option maxRecDepth 20000 in
theorem ggX3_plot_X0_get : GoodIn wsX3_plot wsX0_get := goodIn_r _ [15, 16, 52, 53, 54] (by decide +kernel) (by decide +kernel)
set_option maxRecDepth 20000 in
theorem gX3_plot_X0_get : GoodIn wsX3_plot (wsV RX3 35 RX0 yX0_get wsX0_get) := goodIn_app (goodIn_of _ (by decide +kernel)) ggX3_plot_X0_get
set_option maxRecDepth 20000 in
theorem ggX3_plot_X5_holds : GoodIn wsX3_plot wsX5_holds := goodIn_r _ [20] (by decide +kernel) (by decide +kernel)
set_option maxRecDepth 20000 in
theorem gX3_plot_X5_holds_n39 : GoodIn wsX3_plot (wsX5_holds) := ggX3_plot_X5_holds
set_option maxRecDepth 20000 in
theorem ggX3_plot_X0_vector : GoodIn wsX3_plot wsX0_vector := goodIn_r _ [24, 12, 13, 14, 9, 15, 16, 25, 26, 27, 28, 29, 30, 31, 32, 33, 34, 35, 36, 37, 38, 52, 53, 54] (by decide +kernel) (by decide +kernel)
set_option maxRecDepth 20000 in
theorem gX3_plot_X0_vector : GoodIn wsX3_plot (wsV RX3 43 RX0 yX0_vector wsX0_vector) := goodIn_app (goodIn_of _ (by decide +kernel)) ggX3_plot_X0_vector
set_option maxRecDepth 20000 in
theorem ggX3_plot_X3_place : GoodIn wsX3_plot wsX3_place := goodIn_r _ [43, 1, 48, 49, 50, 51] (by decide +kernel) (by decide +kernel)
set_option maxRecDepth 20000 in
theorem gX3_plot_X3_place : GoodIn wsX3_plot (wsV RX3 46 RX3 yX3_place wsX3_place) := goodIn_app (goodIn_of _ (by decide +kernel)) ggX3_plot_X3_place
set_option maxRecDepth 20000 in
theorem ggX3_plot_X3_setPlace : GoodIn wsX3_plot wsX3_setPlace := goodIn_r _ [47, 1, 48, 49, 50, 51] (by decide +kernel) (by decide +kernel)
set_option maxRecDepth 20000 in
theorem gX3_plot_X3_setPlace : GoodIn wsX3_plot (wsV RX3 49 RX3 yX3_setPlace wsX3_setPlace) := goodIn_app (goodIn_of _ (by decide +kernel)) ggX3_plot_X3_setPlace
theorem dX3_plot_0 : decode cX3_plot 0 = .ok (.aload_n 0, 1) := by decide +kernel
theorem dX3_plot_1 : decode cX3_plot 1 = .ok (.getfield 11, 3) := by decide +kernel
theorem dX3_plot_4 : decode cX3_plot 4 = .ok (.iconst 0, 1) := by decide +kernel
theorem dX3_plot_5 : decode cX3_plot 5 = .ok (.invokestatic 23, 3) := by decide +kernel
theorem dX3_plot_8 : decode cX3_plot 8 = .ok (.iconst 1, 1) := by decide +kernel
theorem dX3_plot_9 : decode cX3_plot 9 = .ok (.istore_n 2, 1) := by decide +kernel
theorem dX3_plot_10 : decode cX3_plot 10 = .ok (.iconst 0, 1) := by decide +kernel
theorem dX3_plot_11 : decode cX3_plot 11 = .ok (.istore_n 3, 1) := by decide +kernel
theorem dX3_plot_12 : decode cX3_plot 12 = .ok (.iload_n 3, 1) := by decide +kernel
theorem dX3_plot_13 : decode cX3_plot 13 = .ok (.bipush 6, 2) := by decide +kernel
theorem dX3_plot_15 : decode cX3_plot 15 = .ok (.if_icmp .ge 133, 3) := by decide +kernel
theorem dX3_plot_18 : decode cX3_plot 18 = .ok (.aload_n 1, 1) := by decide +kernel
theorem dX3_plot_19 : decode cX3_plot 19 = .ok (.iload_n 2, 1) := by decide +kernel
theorem dX3_plot_20 : decode cX3_plot 20 = .ok (.invokevirtual 29, 3) := by decide +kernel
theorem dX3_plot_23 : decode cX3_plot 23 = .ok (.istore 4, 2) := by decide +kernel
theorem dX3_plot_25 : decode cX3_plot 25 = .ok (.iload 4, 2) := by decide +kernel
theorem dX3_plot_27 : decode cX3_plot 27 = .ok (.bipush (-9), 2) := by decide +kernel
theorem dX3_plot_29 : decode cX3_plot 29 = .ok (.if_icmp .ne 4, 3) := by decide +kernel
theorem dX3_plot_32 : decode cX3_plot 32 = .ok (.return_, 1) := by decide +kernel
theorem dX3_plot_33 : decode cX3_plot 33 = .ok (.aload_n 1, 1) := by decide +kernel
theorem dX3_plot_34 : decode cX3_plot 34 = .ok (.iload 4, 2) := by decide +kernel
theorem dX3_plot_36 : decode cX3_plot 36 = .ok (.iconst 4, 1) := by decide +kernel
theorem dX3_plot_37 : decode cX3_plot 37 = .ok (.invokevirtual 35, 3) := by decide +kernel
theorem dX3_plot_40 : decode cX3_plot 40 = .ok (.istore 5, 2) := by decide +kernel
theorem dX3_plot_42 : decode cX3_plot 42 = .ok (.aload_n 1, 1) := by decide +kernel
theorem dX3_plot_43 : decode cX3_plot 43 = .ok (.iload 4, 2) := by decide +kernel
theorem dX3_plot_45 : decode cX3_plot 45 = .ok (.iconst 5, 1) := by decide +kernel
theorem dX3_plot_46 : decode cX3_plot 46 = .ok (.invokevirtual 35, 3) := by decide +kernel
theorem dX3_plot_49 : decode cX3_plot 49 = .ok (.istore 6, 2) := by decide +kernel
theorem dX3_plot_51 : decode cX3_plot 51 = .ok (.iload_n 2, 1) := by decide +kernel
theorem dX3_plot_52 : decode cX3_plot 52 = .ok (.iload 5, 2) := by decide +kernel
theorem dX3_plot_54 : decode cX3_plot 54 = .ok (.invokestatic 39, 3) := by decide +kernel
theorem dX3_plot_57 : decode cX3_plot 57 = .ok (.istore 7, 2) := by decide +kernel
theorem dX3_plot_59 : decode cX3_plot 59 = .ok (.iconst 0, 1) := by decide +kernel
theorem dX3_plot_60 : decode cX3_plot 60 = .ok (.istore 8, 2) := by decide +kernel
theorem dX3_plot_62 : decode cX3_plot 62 = .ok (.iload 8, 2) := by decide +kernel
theorem dX3_plot_64 : decode cX3_plot 64 = .ok (.iconst 3, 1) := by decide +kernel
theorem dX3_plot_65 : decode cX3_plot 65 = .ok (.if_icmp .ge 65, 3) := by decide +kernel
theorem dX3_plot_68 : decode cX3_plot 68 = .ok (.aload_n 1, 1) := by decide +kernel
theorem dX3_plot_69 : decode cX3_plot 69 = .ok (.iload 4, 2) := by decide +kernel
theorem dX3_plot_71 : decode cX3_plot 71 = .ok (.iload 8, 2) := by decide +kernel
theorem dX3_plot_73 : decode cX3_plot 73 = .ok (.invokevirtual 43, 3) := by decide +kernel
theorem dX3_plot_76 : decode cX3_plot 76 = .ok (.istore 9, 2) := by decide +kernel
theorem dX3_plot_78 : decode cX3_plot 78 = .ok (.iload 7, 2) := by decide +kernel
theorem dX3_plot_80 : decode cX3_plot 80 = .ok (.ifCond .eq 25, 3) := by decide +kernel
theorem dX3_plot_83 : decode cX3_plot 83 = .ok (.aload_n 0, 1) := by decide +kernel
theorem dX3_plot_84 : decode cX3_plot 84 = .ok (.iload 6, 2) := by decide +kernel
theorem dX3_plot_86 : decode cX3_plot 86 = .ok (.iload 8, 2) := by decide +kernel
theorem dX3_plot_88 : decode cX3_plot 88 = .ok (.aload_n 0, 1) := by decide +kernel
theorem dX3_plot_89 : decode cX3_plot 89 = .ok (.iload 5, 2) := by decide +kernel
theorem dX3_plot_91 : decode cX3_plot 91 = .ok (.iload 8, 2) := by decide +kernel
theorem dX3_plot_93 : decode cX3_plot 93 = .ok (.invokevirtual 46, 3) := by decide +kernel
theorem dX3_plot_96 : decode cX3_plot 96 = .ok (.iload 9, 2) := by decide +kernel
theorem dX3_plot_98 : decode cX3_plot 98 = .ok (.iadd, 1) := by decide +kernel
theorem dX3_plot_99 : decode cX3_plot 99 = .ok (.invokevirtual 49, 3) := by decide +kernel
theorem dX3_plot_102 : decode cX3_plot 102 = .ok (.goto 22, 3) := by decide +kernel
theorem dX3_plot_105 : decode cX3_plot 105 = .ok (.aload_n 0, 1) := by decide +kernel
theorem dX3_plot_106 : decode cX3_plot 106 = .ok (.iload 5, 2) := by decide +kernel
theorem dX3_plot_108 : decode cX3_plot 108 = .ok (.iload 8, 2) := by decide +kernel
theorem dX3_plot_110 : decode cX3_plot 110 = .ok (.aload_n 0, 1) := by decide +kernel
theorem dX3_plot_111 : decode cX3_plot 111 = .ok (.iload 6, 2) := by decide +kernel
theorem dX3_plot_113 : decode cX3_plot 113 = .ok (.iload 8, 2) := by decide +kernel
theorem dX3_plot_115 : decode cX3_plot 115 = .ok (.invokevirtual 46, 3) := by decide +kernel
theorem dX3_plot_118 : decode cX3_plot 118 = .ok (.iload 9, 2) := by decide +kernel
theorem dX3_plot_120 : decode cX3_plot 120 = .ok (.isub, 1) := by decide +kernel
theorem dX3_plot_121 : decode cX3_plot 121 = .ok (.invokevirtual 49, 3) := by decide +kernel
theorem dX3_plot_124 : decode cX3_plot 124 = .ok (.iinc 8 1, 3) := by decide +kernel
theorem dX3_plot_127 : decode cX3_plot 127 = .ok (.goto (-65), 3) := by decide +kernel
theorem dX3_plot_130 : decode cX3_plot 130 = .ok (.iload_n 2, 1) := by decide +kernel
theorem dX3_plot_131 : decode cX3_plot 131 = .ok (.iconst 1, 1) := by decide +kernel
theorem dX3_plot_132 : decode cX3_plot 132 = .ok (.iload 5, 2) := by decide +kernel
theorem dX3_plot_134 : decode cX3_plot 134 = .ok (.ishl, 1) := by decide +kernel
theorem dX3_plot_135 : decode cX3_plot 135 = .ok (.iconst 1, 1) := by decide +kernel
theorem dX3_plot_136 : decode cX3_plot 136 = .ok (.iload 6, 2) := by decide +kernel
theorem dX3_plot_138 : decode cX3_plot 138 = .ok (.ishl, 1) := by decide +kernel
theorem dX3_plot_139 : decode cX3_plot 139 = .ok (.ior, 1) := by decide +kernel
theorem dX3_plot_140 : decode cX3_plot 140 = .ok (.ior, 1) := by decide +kernel
theorem dX3_plot_141 : decode cX3_plot 141 = .ok (.istore_n 2, 1) := by decide +kernel
theorem dX3_plot_142 : decode cX3_plot 142 = .ok (.iinc 3 1, 3) := by decide +kernel
theorem dX3_plot_145 : decode cX3_plot 145 = .ok (.goto (-133), 3) := by decide +kernel
theorem dX3_plot_148 : decode cX3_plot 148 = .ok (.return_, 1) := by decide +kernel
theorem dX3_place_0 : decode cX3_place 0 = .ok (.iload_n 1, 1) := by decide +kernel
theorem dX3_place_1 : decode cX3_place 1 = .ok (.iconst 3, 1) := by decide +kernel
theorem dX3_place_2 : decode cX3_place 2 = .ok (.imul, 1) := by decide +kernel
theorem dX3_place_3 : decode cX3_place 3 = .ok (.iload_n 2, 1) := by decide +kernel
theorem dX3_place_4 : decode cX3_place 4 = .ok (.iadd, 1) := by decide +kernel
theorem dX3_place_5 : decode cX3_place 5 = .ok (.istore_n 3, 1) := by decide +kernel
theorem dX3_place_6 : decode cX3_place 6 = .ok (.iload_n 3, 1) := by decide +kernel
theorem dX3_place_7 : decode cX3_place 7 = .ok (.ifCond .lt 21, 3) := by decide +kernel
theorem dX3_place_10 : decode cX3_place 10 = .ok (.iload_n 3, 1) := by decide +kernel
theorem dX3_place_11 : decode cX3_place 11 = .ok (.aload_n 0, 1) := by decide +kernel
theorem dX3_place_12 : decode cX3_place 12 = .ok (.getfield 11, 3) := by decide +kernel
theorem dX3_place_15 : decode cX3_place 15 = .ok (.arraylength, 1) := by decide +kernel
theorem dX3_place_16 : decode cX3_place 16 = .ok (.if_icmp .ge 12, 3) := by decide +kernel
theorem dX3_place_19 : decode cX3_place 19 = .ok (.aload_n 0, 1) := by decide +kernel
theorem dX3_place_20 : decode cX3_place 20 = .ok (.getfield 11, 3) := by decide +kernel
theorem dX3_place_23 : decode cX3_place 23 = .ok (.iload_n 3, 1) := by decide +kernel
theorem dX3_place_24 : decode cX3_place 24 = .ok (.iaload, 1) := by decide +kernel
theorem dX3_place_25 : decode cX3_place 25 = .ok (.goto 4, 3) := by decide +kernel
theorem dX3_place_28 : decode cX3_place 28 = .ok (.iconst 0, 1) := by decide +kernel
theorem dX3_place_29 : decode cX3_place 29 = .ok (.ireturn, 1) := by decide +kernel
theorem dX3_setPlace_0 : decode cX3_setPlace 0 = .ok (.iload_n 1, 1) := by decide +kernel
theorem dX3_setPlace_1 : decode cX3_setPlace 1 = .ok (.iconst 3, 1) := by decide +kernel
theorem dX3_setPlace_2 : decode cX3_setPlace 2 = .ok (.imul, 1) := by decide +kernel
theorem dX3_setPlace_3 : decode cX3_setPlace 3 = .ok (.iload_n 2, 1) := by decide +kernel
theorem dX3_setPlace_4 : decode cX3_setPlace 4 = .ok (.iadd, 1) := by decide +kernel
theorem dX3_setPlace_5 : decode cX3_setPlace 5 = .ok (.istore 4, 2) := by decide +kernel
theorem dX3_setPlace_7 : decode cX3_setPlace 7 = .ok (.iload 4, 2) := by decide +kernel
theorem dX3_setPlace_9 : decode cX3_setPlace 9 = .ok (.ifCond .lt 21, 3) := by decide +kernel
theorem dX3_setPlace_12 : decode cX3_setPlace 12 = .ok (.iload 4, 2) := by decide +kernel
theorem dX3_setPlace_14 : decode cX3_setPlace 14 = .ok (.aload_n 0, 1) := by decide +kernel
theorem dX3_setPlace_15 : decode cX3_setPlace 15 = .ok (.getfield 11, 3) := by decide +kernel
theorem dX3_setPlace_18 : decode cX3_setPlace 18 = .ok (.arraylength, 1) := by decide +kernel
theorem dX3_setPlace_19 : decode cX3_setPlace 19 = .ok (.if_icmp .ge 11, 3) := by decide +kernel
theorem dX3_setPlace_22 : decode cX3_setPlace 22 = .ok (.aload_n 0, 1) := by decide +kernel
theorem dX3_setPlace_23 : decode cX3_setPlace 23 = .ok (.getfield 11, 3) := by decide +kernel
theorem dX3_setPlace_26 : decode cX3_setPlace 26 = .ok (.iload 4, 2) := by decide +kernel
theorem dX3_setPlace_28 : decode cX3_setPlace 28 = .ok (.iload_n 3, 1) := by decide +kernel
theorem dX3_setPlace_29 : decode cX3_setPlace 29 = .ok (.iastore, 1) := by decide +kernel
theorem dX3_setPlace_30 : decode cX3_setPlace 30 = .ok (.return_, 1) := by decide +kernel
set_option maxRecDepth 20000 in
theorem ggX3_misclosure_X0_get : GoodIn wsX3_misclosure wsX0_get := goodIn_r _ [5, 6, 32, 33, 34] (by decide +kernel) (by decide +kernel)
set_option maxRecDepth 20000 in
theorem gX3_misclosure_X0_get : GoodIn wsX3_misclosure (wsV RX3 35 RX0 yX0_get wsX0_get) := goodIn_app (goodIn_of _ (by decide +kernel)) ggX3_misclosure_X0_get
set_option maxRecDepth 20000 in
theorem ggX3_misclosure_X0_vector : GoodIn wsX3_misclosure wsX0_vector := goodIn_r _ [10, 11, 2, 3, 4, 5, 6, 12, 13, 14, 15, 16, 17, 18, 19, 20, 21, 22, 23, 24, 25, 32, 33, 34] (by decide +kernel) (by decide +kernel)
set_option maxRecDepth 20000 in
theorem gX3_misclosure_X0_vector : GoodIn wsX3_misclosure (wsV RX3 43 RX0 yX0_vector wsX0_vector) := goodIn_app (goodIn_of _ (by decide +kernel)) ggX3_misclosure_X0_vector
set_option maxRecDepth 20000 in
theorem ggX3_misclosure_X3_place : GoodIn wsX3_misclosure wsX3_place := goodIn_r _ [30, 31, 35, 36, 37, 38] (by decide +kernel) (by decide +kernel)
set_option maxRecDepth 20000 in
theorem gX3_misclosure_X3_place : GoodIn wsX3_misclosure (wsV RX3 46 RX3 yX3_place wsX3_place) := goodIn_app (goodIn_of _ (by decide +kernel)) ggX3_misclosure_X3_place
theorem dX3_misclosure_0 : decode cX3_misclosure 0 = .ok (.aload_n 1, 1) := by decide +kernel
theorem dX3_misclosure_1 : decode cX3_misclosure 1 = .ok (.iload_n 2, 1) := by decide +kernel
theorem dX3_misclosure_2 : decode cX3_misclosure 2 = .ok (.iconst 4, 1) := by decide +kernel
theorem dX3_misclosure_3 : decode cX3_misclosure 3 = .ok (.invokevirtual 35, 3) := by decide +kernel
theorem dX3_misclosure_6 : decode cX3_misclosure 6 = .ok (.istore 4, 2) := by decide +kernel
theorem dX3_misclosure_8 : decode cX3_misclosure 8 = .ok (.aload_n 1, 1) := by decide +kernel
theorem dX3_misclosure_9 : decode cX3_misclosure 9 = .ok (.iload_n 2, 1) := by decide +kernel
theorem dX3_misclosure_10 : decode cX3_misclosure 10 = .ok (.iconst 5, 1) := by decide +kernel
theorem dX3_misclosure_11 : decode cX3_misclosure 11 = .ok (.invokevirtual 35, 3) := by decide +kernel
theorem dX3_misclosure_14 : decode cX3_misclosure 14 = .ok (.istore 5, 2) := by decide +kernel
theorem dX3_misclosure_16 : decode cX3_misclosure 16 = .ok (.aload_n 1, 1) := by decide +kernel
theorem dX3_misclosure_17 : decode cX3_misclosure 17 = .ok (.iload_n 2, 1) := by decide +kernel
theorem dX3_misclosure_18 : decode cX3_misclosure 18 = .ok (.iload_n 3, 1) := by decide +kernel
theorem dX3_misclosure_19 : decode cX3_misclosure 19 = .ok (.invokevirtual 43, 3) := by decide +kernel
theorem dX3_misclosure_22 : decode cX3_misclosure 22 = .ok (.aload_n 0, 1) := by decide +kernel
theorem dX3_misclosure_23 : decode cX3_misclosure 23 = .ok (.iload 5, 2) := by decide +kernel
theorem dX3_misclosure_25 : decode cX3_misclosure 25 = .ok (.iload_n 3, 1) := by decide +kernel
theorem dX3_misclosure_26 : decode cX3_misclosure 26 = .ok (.invokevirtual 46, 3) := by decide +kernel
theorem dX3_misclosure_29 : decode cX3_misclosure 29 = .ok (.aload_n 0, 1) := by decide +kernel
theorem dX3_misclosure_30 : decode cX3_misclosure 30 = .ok (.iload 4, 2) := by decide +kernel
theorem dX3_misclosure_32 : decode cX3_misclosure 32 = .ok (.iload_n 3, 1) := by decide +kernel
theorem dX3_misclosure_33 : decode cX3_misclosure 33 = .ok (.invokevirtual 46, 3) := by decide +kernel
theorem dX3_misclosure_36 : decode cX3_misclosure 36 = .ok (.isub, 1) := by decide +kernel
theorem dX3_misclosure_37 : decode cX3_misclosure 37 = .ok (.isub, 1) := by decide +kernel
theorem dX3_misclosure_38 : decode cX3_misclosure 38 = .ok (.ireturn, 1) := by decide +kernel
set_option maxRecDepth 20000 in
theorem ggX3_closes_X0_connected : GoodIn wsX3_closes wsX0_connected := goodIn_r _ [5, 6, 7, 8, 4, 9, 10, 11, 12, 13, 14, 15, 72, 73, 74] (by decide +kernel) (by decide +kernel)
set_option maxRecDepth 20000 in
theorem gX3_closes_X0_connected : GoodIn wsX3_closes (wsV RX3 53 RX0 yX0_connected wsX0_connected) := goodIn_app (goodIn_of _ (by decide +kernel)) ggX3_closes_X0_connected
set_option maxRecDepth 20000 in
theorem ggX3_closes_X0_touching : GoodIn wsX3_closes wsX0_touching := goodIn_r _ [19, 10, 20, 21, 22, 4, 23, 15, 72, 73, 74] (by decide +kernel) (by decide +kernel)
set_option maxRecDepth 20000 in
theorem gX3_closes_X0_touching : GoodIn wsX3_closes (wsV RX3 57 RX0 yX0_touching wsX0_touching) := goodIn_app (goodIn_of _ (by decide +kernel)) ggX3_closes_X0_touching
set_option maxRecDepth 20000 in
theorem ggX3_closes_X5_holds : GoodIn wsX3_closes wsX5_holds := goodIn_r _ [26] (by decide +kernel) (by decide +kernel)
set_option maxRecDepth 20000 in
theorem gX3_closes_X5_holds_n39 : GoodIn wsX3_closes (wsX5_holds) := ggX3_closes_X5_holds
set_option maxRecDepth 20000 in
theorem ggX3_closes_X3_plot : GoodIn wsX3_closes wsX3_plot := goodIn_r _ [31, 32, 33, 34, 35, 36, 37, 38, 39, 4, 40, 10, 20, 21, 22, 23, 15, 41, 24, 25, 26, 42, 43, 44, 45, 46, 47, 48, 49, 50, 51, 52, 53, 54, 55, 56, 57, 58, 59, 60, 61, 62, 30, 63, 64, 65, 66, 67, 75, 76, 77, 78, 72, 73, 74] (by decide +kernel) (by decide +kernel)
set_option maxRecDepth 20000 in
theorem gX3_closes_X3_plot : GoodIn wsX3_closes (wsV RX3 60 RX3 yX3_plot wsX3_plot) := goodIn_app (goodIn_of _ (by decide +kernel)) ggX3_closes_X3_plot
set_option maxRecDepth 20000 in
theorem ggX3_closes_X3_misclosure : GoodIn wsX3_closes wsX3_misclosure := goodIn_r _ [71, 41, 21, 22, 4, 23, 15, 42, 43, 44, 45, 20, 46, 47, 48, 49, 50, 51, 52, 53, 54, 55, 56, 57, 58, 59, 60, 61, 62, 30, 63, 32, 72, 73, 74, 75, 76, 77, 78] (by decide +kernel) (by decide +kernel)
set_option maxRecDepth 20000 in
theorem gX3_closes_X3_misclosure : GoodIn wsX3_closes (wsV RX3 64 RX3 yX3_misclosure wsX3_misclosure) := goodIn_app (goodIn_of _ (by decide +kernel)) ggX3_closes_X3_misclosure
theorem dX3_closes_0 : decode cX3_closes 0 = .ok (.aload_n 1, 1) := by decide +kernel
theorem dX3_closes_1 : decode cX3_closes 1 = .ok (.aload_n 1, 1) := by decide +kernel
theorem dX3_closes_2 : decode cX3_closes 2 = .ok (.invokevirtual 53, 3) := by decide +kernel
theorem dX3_closes_5 : decode cX3_closes 5 = .ok (.invokevirtual 57, 3) := by decide +kernel
theorem dX3_closes_8 : decode cX3_closes 8 = .ok (.iload_n 2, 1) := by decide +kernel
theorem dX3_closes_9 : decode cX3_closes 9 = .ok (.invokestatic 39, 3) := by decide +kernel
theorem dX3_closes_12 : decode cX3_closes 12 = .ok (.ifCond .ne 5, 3) := by decide +kernel
theorem dX3_closes_15 : decode cX3_closes 15 = .ok (.iconst 0, 1) := by decide +kernel
theorem dX3_closes_16 : decode cX3_closes 16 = .ok (.ireturn, 1) := by decide +kernel
theorem dX3_closes_17 : decode cX3_closes 17 = .ok (.aload_n 0, 1) := by decide +kernel
theorem dX3_closes_18 : decode cX3_closes 18 = .ok (.aload_n 1, 1) := by decide +kernel
theorem dX3_closes_19 : decode cX3_closes 19 = .ok (.invokevirtual 60, 3) := by decide +kernel
theorem dX3_closes_22 : decode cX3_closes 22 = .ok (.iconst 0, 1) := by decide +kernel
theorem dX3_closes_23 : decode cX3_closes 23 = .ok (.istore_n 3, 1) := by decide +kernel
theorem dX3_closes_24 : decode cX3_closes 24 = .ok (.iload_n 3, 1) := by decide +kernel
theorem dX3_closes_25 : decode cX3_closes 25 = .ok (.iconst 3, 1) := by decide +kernel
theorem dX3_closes_26 : decode cX3_closes 26 = .ok (.if_icmp .ge 21, 3) := by decide +kernel
theorem dX3_closes_29 : decode cX3_closes 29 = .ok (.aload_n 0, 1) := by decide +kernel
theorem dX3_closes_30 : decode cX3_closes 30 = .ok (.aload_n 1, 1) := by decide +kernel
theorem dX3_closes_31 : decode cX3_closes 31 = .ok (.iload_n 2, 1) := by decide +kernel
theorem dX3_closes_32 : decode cX3_closes 32 = .ok (.iload_n 3, 1) := by decide +kernel
theorem dX3_closes_33 : decode cX3_closes 33 = .ok (.invokevirtual 64, 3) := by decide +kernel
theorem dX3_closes_36 : decode cX3_closes 36 = .ok (.ifCond .eq 5, 3) := by decide +kernel
theorem dX3_closes_39 : decode cX3_closes 39 = .ok (.iconst 0, 1) := by decide +kernel
theorem dX3_closes_40 : decode cX3_closes 40 = .ok (.ireturn, 1) := by decide +kernel
theorem dX3_closes_41 : decode cX3_closes 41 = .ok (.iinc 3 1, 3) := by decide +kernel
theorem dX3_closes_44 : decode cX3_closes 44 = .ok (.goto (-20), 3) := by decide +kernel
theorem dX3_closes_47 : decode cX3_closes 47 = .ok (.iconst 1, 1) := by decide +kernel
theorem dX3_closes_48 : decode cX3_closes 48 = .ok (.ireturn, 1) := by decide +kernel
set_option maxRecDepth 20000 in
theorem ggX3_adjust_X0_spread : GoodIn wsX3_adjust wsX0_spread := goodIn_r _ [8, 9, 84, 85, 86] (by decide +kernel) (by decide +kernel)
set_option maxRecDepth 20000 in
theorem gX3_adjust_X0_spread : GoodIn wsX3_adjust (wsV RX3 68 RX0 yX0_spread wsX0_spread) := goodIn_app (goodIn_of _ (by decide +kernel)) ggX3_adjust_X0_spread
set_option maxRecDepth 20000 in
theorem ggX3_adjust_X0_touching : GoodIn wsX3_adjust wsX0_touching := goodIn_r _ [13, 14, 15, 16, 17, 7, 18, 9, 84, 85, 86] (by decide +kernel) (by decide +kernel)
set_option maxRecDepth 20000 in
theorem gX3_adjust_X0_touching : GoodIn wsX3_adjust (wsV RX3 57 RX0 yX0_touching wsX0_touching) := goodIn_app (goodIn_of _ (by decide +kernel)) ggX3_adjust_X0_touching
set_option maxRecDepth 20000 in
theorem ggX3_adjust_J7_fill_d0a16 : GoodIn wsX3_adjust wsJ7_fill_d0a16 := goodIn_r _ [22] (by decide +kernel) (by decide +kernel)
set_option maxRecDepth 20000 in
theorem gX3_adjust_J7_fill_d0a16 : GoodIn wsX3_adjust (va_wsS RX3 71 yJ7_fill_d0a16 wsJ7_fill_d0a16) := goodIn_app (goodIn_of _ (by decide +kernel)) ggX3_adjust_J7_fill_d0a16
set_option maxRecDepth 20000 in
theorem ggX3_adjust_X5_holds : GoodIn wsX3_adjust wsX5_holds := goodIn_r _ [25] (by decide +kernel) (by decide +kernel)
set_option maxRecDepth 20000 in
theorem gX3_adjust_X5_holds_n39 : GoodIn wsX3_adjust (wsX5_holds) := ggX3_adjust_X5_holds
set_option maxRecDepth 20000 in
theorem ggX3_adjust_X3_addTo : GoodIn wsX3_adjust wsX3_addTo := goodIn_r _ [30, 1, 80, 81, 82, 83] (by decide +kernel) (by decide +kernel)
set_option maxRecDepth 20000 in
theorem gX3_adjust_X3_addTo : GoodIn wsX3_adjust (wsV RX3 74 RX3 yX3_addTo wsX3_addTo) := goodIn_app (goodIn_of _ (by decide +kernel)) ggX3_adjust_X3_addTo
set_option maxRecDepth 20000 in
theorem ggX3_adjust_X3_enter : GoodIn wsX3_adjust wsX3_enter := goodIn_r _ [34, 35, 36, 16, 17, 7, 18, 9, 26, 27, 28, 29, 30, 1, 37, 38, 39, 40, 15, 41, 42, 43, 44, 45, 46, 47, 48, 49, 50, 51, 52, 53, 54, 84, 85, 86, 80, 81, 82, 83] (by decide +kernel) (by decide +kernel)
set_option maxRecDepth 20000 in
theorem gX3_adjust_X3_enter : GoodIn wsX3_adjust (wsV RX3 82 RX3 yX3_enter wsX3_enter) := goodIn_app (goodIn_of _ (by decide +kernel)) ggX3_adjust_X3_enter
set_option maxRecDepth 20000 in
theorem ggX3_adjust_X3_solve : GoodIn wsX3_adjust wsX3_solve := goodIn_r _ [58, 59, 60, 61, 62, 29, 63, 1, 64, 65, 66, 67, 80, 81, 82, 83] (by decide +kernel) (by decide +kernel)
set_option maxRecDepth 20000 in
theorem gX3_adjust_X3_solve : GoodIn wsX3_adjust (wsV RX3 86 RX3 yX3_solve wsX3_solve) := goodIn_app (goodIn_of _ (by decide +kernel)) ggX3_adjust_X3_solve
set_option maxRecDepth 20000 in
theorem ggX3_adjust_X3_squareOf : GoodIn wsX3_adjust wsX3_squareOf := goodIn_r _ [71, 72, 73, 74, 29, 75, 59, 36, 16, 17, 7, 18, 9, 76, 77, 78, 79, 60, 61, 62, 63, 1, 37, 38, 39, 40, 15, 41, 42, 43, 44, 45, 46, 47, 48, 49, 50, 51, 52, 53, 54, 80, 81, 82, 83, 84, 85, 86] (by decide +kernel) (by decide +kernel)
set_option maxRecDepth 20000 in
theorem gX3_adjust_X3_squareOf : GoodIn wsX3_adjust (wsV RX3 92 RX3 yX3_squareOf wsX3_squareOf) := goodIn_app (goodIn_of _ (by decide +kernel)) ggX3_adjust_X3_squareOf
theorem dX3_adjust_0 : decode cX3_adjust 0 = .ok (.aload_n 1, 1) := by decide +kernel
theorem dX3_adjust_1 : decode cX3_adjust 1 = .ok (.iload_n 2, 1) := by decide +kernel
theorem dX3_adjust_2 : decode cX3_adjust 2 = .ok (.iconst 1, 1) := by decide +kernel
theorem dX3_adjust_3 : decode cX3_adjust 3 = .ok (.invokevirtual 68, 3) := by decide +kernel
theorem dX3_adjust_6 : decode cX3_adjust 6 = .ok (.istore_n 3, 1) := by decide +kernel
theorem dX3_adjust_7 : decode cX3_adjust 7 = .ok (.iload_n 2, 1) := by decide +kernel
theorem dX3_adjust_8 : decode cX3_adjust 8 = .ok (.aload_n 1, 1) := by decide +kernel
theorem dX3_adjust_9 : decode cX3_adjust 9 = .ok (.iload_n 3, 1) := by decide +kernel
theorem dX3_adjust_10 : decode cX3_adjust 10 = .ok (.invokevirtual 57, 3) := by decide +kernel
theorem dX3_adjust_13 : decode cX3_adjust 13 = .ok (.iand, 1) := by decide +kernel
theorem dX3_adjust_14 : decode cX3_adjust 14 = .ok (.istore 4, 2) := by decide +kernel
theorem dX3_adjust_16 : decode cX3_adjust 16 = .ok (.aload_n 0, 1) := by decide +kernel
theorem dX3_adjust_17 : decode cX3_adjust 17 = .ok (.getfield 15, 3) := by decide +kernel
theorem dX3_adjust_20 : decode cX3_adjust 20 = .ok (.lconst 0, 1) := by decide +kernel
theorem dX3_adjust_21 : decode cX3_adjust 21 = .ok (.invokestatic 71, 3) := by decide +kernel
theorem dX3_adjust_24 : decode cX3_adjust 24 = .ok (.iconst 1, 1) := by decide +kernel
theorem dX3_adjust_25 : decode cX3_adjust 25 = .ok (.istore 5, 2) := by decide +kernel
theorem dX3_adjust_27 : decode cX3_adjust 27 = .ok (.iload 5, 2) := by decide +kernel
theorem dX3_adjust_29 : decode cX3_adjust 29 = .ok (.bipush 6, 2) := by decide +kernel
theorem dX3_adjust_31 : decode cX3_adjust 31 = .ok (.if_icmp .ge 33, 3) := by decide +kernel
theorem dX3_adjust_34 : decode cX3_adjust 34 = .ok (.aload_n 0, 1) := by decide +kernel
theorem dX3_adjust_35 : decode cX3_adjust 35 = .ok (.iload 5, 2) := by decide +kernel
theorem dX3_adjust_37 : decode cX3_adjust 37 = .ok (.iload 5, 2) := by decide +kernel
theorem dX3_adjust_39 : decode cX3_adjust 39 = .ok (.iconst 1, 1) := by decide +kernel
theorem dX3_adjust_40 : decode cX3_adjust 40 = .ok (.isub, 1) := by decide +kernel
theorem dX3_adjust_41 : decode cX3_adjust 41 = .ok (.iload_n 3, 1) := by decide +kernel
theorem dX3_adjust_42 : decode cX3_adjust 42 = .ok (.iload 5, 2) := by decide +kernel
theorem dX3_adjust_44 : decode cX3_adjust 44 = .ok (.invokestatic 39, 3) := by decide +kernel
theorem dX3_adjust_47 : decode cX3_adjust 47 = .ok (.ifCond .eq 7, 3) := by decide +kernel
theorem dX3_adjust_50 : decode cX3_adjust 50 = .ok (.lconst 0, 1) := by decide +kernel
theorem dX3_adjust_51 : decode cX3_adjust 51 = .ok (.goto 4, 3) := by decide +kernel
theorem dX3_adjust_54 : decode cX3_adjust 54 = .ok (.lconst 1, 1) := by decide +kernel
theorem dX3_adjust_55 : decode cX3_adjust 55 = .ok (.invokevirtual 74, 3) := by decide +kernel
theorem dX3_adjust_58 : decode cX3_adjust 58 = .ok (.iinc 5 1, 3) := by decide +kernel
theorem dX3_adjust_61 : decode cX3_adjust 61 = .ok (.goto (-34), 3) := by decide +kernel
theorem dX3_adjust_64 : decode cX3_adjust 64 = .ok (.iconst 0, 1) := by decide +kernel
theorem dX3_adjust_65 : decode cX3_adjust 65 = .ok (.istore 5, 2) := by decide +kernel
theorem dX3_adjust_67 : decode cX3_adjust 67 = .ok (.iload 5, 2) := by decide +kernel
theorem dX3_adjust_69 : decode cX3_adjust 69 = .ok (.aload_n 1, 1) := by decide +kernel
theorem dX3_adjust_70 : decode cX3_adjust 70 = .ok (.getfield 78, 3) := by decide +kernel
theorem dX3_adjust_73 : decode cX3_adjust 73 = .ok (.if_icmp .ge 26, 3) := by decide +kernel
theorem dX3_adjust_76 : decode cX3_adjust 76 = .ok (.iload 4, 2) := by decide +kernel
theorem dX3_adjust_78 : decode cX3_adjust 78 = .ok (.iload 5, 2) := by decide +kernel
theorem dX3_adjust_80 : decode cX3_adjust 80 = .ok (.invokestatic 39, 3) := by decide +kernel
theorem dX3_adjust_83 : decode cX3_adjust 83 = .ok (.ifCond .eq 10, 3) := by decide +kernel
theorem dX3_adjust_86 : decode cX3_adjust 86 = .ok (.aload_n 0, 1) := by decide +kernel
theorem dX3_adjust_87 : decode cX3_adjust 87 = .ok (.aload_n 1, 1) := by decide +kernel
theorem dX3_adjust_88 : decode cX3_adjust 88 = .ok (.iload 5, 2) := by decide +kernel
theorem dX3_adjust_90 : decode cX3_adjust 90 = .ok (.invokevirtual 82, 3) := by decide +kernel
theorem dX3_adjust_93 : decode cX3_adjust 93 = .ok (.iinc 5 1, 3) := by decide +kernel
theorem dX3_adjust_96 : decode cX3_adjust 96 = .ok (.goto (-29), 3) := by decide +kernel
theorem dX3_adjust_99 : decode cX3_adjust 99 = .ok (.aload_n 0, 1) := by decide +kernel
theorem dX3_adjust_100 : decode cX3_adjust 100 = .ok (.invokevirtual 86, 3) := by decide +kernel
theorem dX3_adjust_103 : decode cX3_adjust 103 = .ok (.aload_n 0, 1) := by decide +kernel
theorem dX3_adjust_104 : decode cX3_adjust 104 = .ok (.lconst 0, 1) := by decide +kernel
theorem dX3_adjust_105 : decode cX3_adjust 105 = .ok (.putfield 89, 3) := by decide +kernel
theorem dX3_adjust_108 : decode cX3_adjust 108 = .ok (.iconst 0, 1) := by decide +kernel
theorem dX3_adjust_109 : decode cX3_adjust 109 = .ok (.istore 5, 2) := by decide +kernel
theorem dX3_adjust_111 : decode cX3_adjust 111 = .ok (.iload 5, 2) := by decide +kernel
theorem dX3_adjust_113 : decode cX3_adjust 113 = .ok (.aload_n 1, 1) := by decide +kernel
theorem dX3_adjust_114 : decode cX3_adjust 114 = .ok (.getfield 78, 3) := by decide +kernel
theorem dX3_adjust_117 : decode cX3_adjust 117 = .ok (.if_icmp .ge 35, 3) := by decide +kernel
theorem dX3_adjust_120 : decode cX3_adjust 120 = .ok (.iload 4, 2) := by decide +kernel
theorem dX3_adjust_122 : decode cX3_adjust 122 = .ok (.iload 5, 2) := by decide +kernel
theorem dX3_adjust_124 : decode cX3_adjust 124 = .ok (.invokestatic 39, 3) := by decide +kernel
theorem dX3_adjust_127 : decode cX3_adjust 127 = .ok (.ifCond .eq 19, 3) := by decide +kernel
theorem dX3_adjust_130 : decode cX3_adjust 130 = .ok (.aload_n 0, 1) := by decide +kernel
theorem dX3_adjust_131 : decode cX3_adjust 131 = .ok (.dup, 1) := by decide +kernel
theorem dX3_adjust_132 : decode cX3_adjust 132 = .ok (.getfield 89, 3) := by decide +kernel
theorem dX3_adjust_135 : decode cX3_adjust 135 = .ok (.aload_n 0, 1) := by decide +kernel
theorem dX3_adjust_136 : decode cX3_adjust 136 = .ok (.aload_n 1, 1) := by decide +kernel
theorem dX3_adjust_137 : decode cX3_adjust 137 = .ok (.iload 5, 2) := by decide +kernel
theorem dX3_adjust_139 : decode cX3_adjust 139 = .ok (.invokevirtual 92, 3) := by decide +kernel
theorem dX3_adjust_142 : decode cX3_adjust 142 = .ok (.ladd, 1) := by decide +kernel
theorem dX3_adjust_143 : decode cX3_adjust 143 = .ok (.putfield 89, 3) := by decide +kernel
theorem dX3_adjust_146 : decode cX3_adjust 146 = .ok (.iinc 5 1, 3) := by decide +kernel
theorem dX3_adjust_149 : decode cX3_adjust 149 = .ok (.goto (-38), 3) := by decide +kernel
theorem dX3_adjust_152 : decode cX3_adjust 152 = .ok (.return_, 1) := by decide +kernel
set_option maxRecDepth 20000 in
theorem ggX3_enter_X0_get : GoodIn wsX3_enter wsX0_get := goodIn_r _ [6, 7, 33, 34, 35] (by decide +kernel) (by decide +kernel)
set_option maxRecDepth 20000 in
theorem gX3_enter_X0_get : GoodIn wsX3_enter (wsV RX3 35 RX0 yX0_get wsX0_get) := goodIn_app (goodIn_of _ (by decide +kernel)) ggX3_enter_X0_get
set_option maxRecDepth 20000 in
theorem ggX3_enter_X3_addTo : GoodIn wsX3_enter wsX3_addTo := goodIn_r _ [12, 13, 36, 37, 38, 39] (by decide +kernel) (by decide +kernel)
set_option maxRecDepth 20000 in
theorem gX3_enter_X3_addTo : GoodIn wsX3_enter (wsV RX3 74 RX3 yX3_addTo wsX3_addTo) := goodIn_app (goodIn_of _ (by decide +kernel)) ggX3_enter_X3_addTo
set_option maxRecDepth 20000 in
theorem ggX3_enter_X0_vector : GoodIn wsX3_enter wsX0_vector := goodIn_r _ [17, 18, 3, 4, 5, 6, 7, 19, 20, 21, 22, 23, 24, 25, 26, 27, 28, 29, 30, 31, 32, 33, 34, 35] (by decide +kernel) (by decide +kernel)
set_option maxRecDepth 20000 in
theorem gX3_enter_X0_vector : GoodIn wsX3_enter (wsV RX3 43 RX0 yX0_vector wsX0_vector) := goodIn_app (goodIn_of _ (by decide +kernel)) ggX3_enter_X0_vector
theorem dX3_enter_0 : decode cX3_enter 0 = .ok (.aload_n 1, 1) := by decide +kernel
theorem dX3_enter_1 : decode cX3_enter 1 = .ok (.iload_n 2, 1) := by decide +kernel
theorem dX3_enter_2 : decode cX3_enter 2 = .ok (.iconst 4, 1) := by decide +kernel
theorem dX3_enter_3 : decode cX3_enter 3 = .ok (.invokevirtual 35, 3) := by decide +kernel
theorem dX3_enter_6 : decode cX3_enter 6 = .ok (.istore_n 3, 1) := by decide +kernel
theorem dX3_enter_7 : decode cX3_enter 7 = .ok (.aload_n 1, 1) := by decide +kernel
theorem dX3_enter_8 : decode cX3_enter 8 = .ok (.iload_n 2, 1) := by decide +kernel
theorem dX3_enter_9 : decode cX3_enter 9 = .ok (.iconst 5, 1) := by decide +kernel
theorem dX3_enter_10 : decode cX3_enter 10 = .ok (.invokevirtual 35, 3) := by decide +kernel
theorem dX3_enter_13 : decode cX3_enter 13 = .ok (.istore 4, 2) := by decide +kernel
theorem dX3_enter_15 : decode cX3_enter 15 = .ok (.aload_n 0, 1) := by decide +kernel
theorem dX3_enter_16 : decode cX3_enter 16 = .ok (.iload_n 3, 1) := by decide +kernel
theorem dX3_enter_17 : decode cX3_enter 17 = .ok (.iload_n 3, 1) := by decide +kernel
theorem dX3_enter_18 : decode cX3_enter 18 = .ok (.iconst 1, 1) := by decide +kernel
theorem dX3_enter_19 : decode cX3_enter 19 = .ok (.isub, 1) := by decide +kernel
theorem dX3_enter_20 : decode cX3_enter 20 = .ok (.lconst 1, 1) := by decide +kernel
theorem dX3_enter_21 : decode cX3_enter 21 = .ok (.invokevirtual 74, 3) := by decide +kernel
theorem dX3_enter_24 : decode cX3_enter 24 = .ok (.aload_n 0, 1) := by decide +kernel
theorem dX3_enter_25 : decode cX3_enter 25 = .ok (.iload_n 3, 1) := by decide +kernel
theorem dX3_enter_26 : decode cX3_enter 26 = .ok (.iload 4, 2) := by decide +kernel
theorem dX3_enter_28 : decode cX3_enter 28 = .ok (.iconst 1, 1) := by decide +kernel
theorem dX3_enter_29 : decode cX3_enter 29 = .ok (.isub, 1) := by decide +kernel
theorem dX3_enter_30 : decode cX3_enter 30 = .ok (.ldc2_w 96, 3) := by decide +kernel
theorem dX3_enter_33 : decode cX3_enter 33 = .ok (.invokevirtual 74, 3) := by decide +kernel
theorem dX3_enter_36 : decode cX3_enter 36 = .ok (.aload_n 0, 1) := by decide +kernel
theorem dX3_enter_37 : decode cX3_enter 37 = .ok (.iload 4, 2) := by decide +kernel
theorem dX3_enter_39 : decode cX3_enter 39 = .ok (.iload 4, 2) := by decide +kernel
theorem dX3_enter_41 : decode cX3_enter 41 = .ok (.iconst 1, 1) := by decide +kernel
theorem dX3_enter_42 : decode cX3_enter 42 = .ok (.isub, 1) := by decide +kernel
theorem dX3_enter_43 : decode cX3_enter 43 = .ok (.lconst 1, 1) := by decide +kernel
theorem dX3_enter_44 : decode cX3_enter 44 = .ok (.invokevirtual 74, 3) := by decide +kernel
theorem dX3_enter_47 : decode cX3_enter 47 = .ok (.aload_n 0, 1) := by decide +kernel
theorem dX3_enter_48 : decode cX3_enter 48 = .ok (.iload 4, 2) := by decide +kernel
theorem dX3_enter_50 : decode cX3_enter 50 = .ok (.iload_n 3, 1) := by decide +kernel
theorem dX3_enter_51 : decode cX3_enter 51 = .ok (.iconst 1, 1) := by decide +kernel
theorem dX3_enter_52 : decode cX3_enter 52 = .ok (.isub, 1) := by decide +kernel
theorem dX3_enter_53 : decode cX3_enter 53 = .ok (.ldc2_w 96, 3) := by decide +kernel
theorem dX3_enter_56 : decode cX3_enter 56 = .ok (.invokevirtual 74, 3) := by decide +kernel
theorem dX3_enter_59 : decode cX3_enter 59 = .ok (.iconst 0, 1) := by decide +kernel
theorem dX3_enter_60 : decode cX3_enter 60 = .ok (.istore 5, 2) := by decide +kernel
theorem dX3_enter_62 : decode cX3_enter 62 = .ok (.iload 5, 2) := by decide +kernel
theorem dX3_enter_64 : decode cX3_enter 64 = .ok (.iconst 3, 1) := by decide +kernel
theorem dX3_enter_65 : decode cX3_enter 65 = .ok (.if_icmp .ge 44, 3) := by decide +kernel
theorem dX3_enter_68 : decode cX3_enter 68 = .ok (.aload_n 1, 1) := by decide +kernel
theorem dX3_enter_69 : decode cX3_enter 69 = .ok (.iload_n 2, 1) := by decide +kernel
theorem dX3_enter_70 : decode cX3_enter 70 = .ok (.iload 5, 2) := by decide +kernel
theorem dX3_enter_72 : decode cX3_enter 72 = .ok (.invokevirtual 43, 3) := by decide +kernel
theorem dX3_enter_75 : decode cX3_enter 75 = .ok (.istore 6, 2) := by decide +kernel
theorem dX3_enter_77 : decode cX3_enter 77 = .ok (.aload_n 0, 1) := by decide +kernel
theorem dX3_enter_78 : decode cX3_enter 78 = .ok (.iload_n 3, 1) := by decide +kernel
theorem dX3_enter_79 : decode cX3_enter 79 = .ok (.iconst 5, 1) := by decide +kernel
theorem dX3_enter_80 : decode cX3_enter 80 = .ok (.iload 5, 2) := by decide +kernel
theorem dX3_enter_82 : decode cX3_enter 82 = .ok (.iadd, 1) := by decide +kernel
theorem dX3_enter_83 : decode cX3_enter 83 = .ok (.iload 6, 2) := by decide +kernel
theorem dX3_enter_85 : decode cX3_enter 85 = .ok (.ineg, 1) := by decide +kernel
theorem dX3_enter_86 : decode cX3_enter 86 = .ok (.i2l, 1) := by decide +kernel
theorem dX3_enter_87 : decode cX3_enter 87 = .ok (.invokevirtual 74, 3) := by decide +kernel
theorem dX3_enter_90 : decode cX3_enter 90 = .ok (.aload_n 0, 1) := by decide +kernel
theorem dX3_enter_91 : decode cX3_enter 91 = .ok (.iload 4, 2) := by decide +kernel
theorem dX3_enter_93 : decode cX3_enter 93 = .ok (.iconst 5, 1) := by decide +kernel
theorem dX3_enter_94 : decode cX3_enter 94 = .ok (.iload 5, 2) := by decide +kernel
theorem dX3_enter_96 : decode cX3_enter 96 = .ok (.iadd, 1) := by decide +kernel
theorem dX3_enter_97 : decode cX3_enter 97 = .ok (.iload 6, 2) := by decide +kernel
theorem dX3_enter_99 : decode cX3_enter 99 = .ok (.i2l, 1) := by decide +kernel
theorem dX3_enter_100 : decode cX3_enter 100 = .ok (.invokevirtual 74, 3) := by decide +kernel
theorem dX3_enter_103 : decode cX3_enter 103 = .ok (.iinc 5 1, 3) := by decide +kernel
theorem dX3_enter_106 : decode cX3_enter 106 = .ok (.goto (-44), 3) := by decide +kernel
theorem dX3_enter_109 : decode cX3_enter 109 = .ok (.return_, 1) := by decide +kernel
theorem dX3_addTo_0 : decode cX3_addTo 0 = .ok (.iload_n 1, 1) := by decide +kernel
theorem dX3_addTo_1 : decode cX3_addTo 1 = .ok (.iconst 1, 1) := by decide +kernel
theorem dX3_addTo_2 : decode cX3_addTo 2 = .ok (.if_icmp .lt 35, 3) := by decide +kernel
theorem dX3_addTo_5 : decode cX3_addTo 5 = .ok (.iload_n 1, 1) := by decide +kernel
theorem dX3_addTo_6 : decode cX3_addTo 6 = .ok (.iconst 5, 1) := by decide +kernel
theorem dX3_addTo_7 : decode cX3_addTo 7 = .ok (.if_icmp .gt 30, 3) := by decide +kernel
theorem dX3_addTo_10 : decode cX3_addTo 10 = .ok (.iload_n 2, 1) := by decide +kernel
theorem dX3_addTo_11 : decode cX3_addTo 11 = .ok (.ifCond .lt 26, 3) := by decide +kernel
theorem dX3_addTo_14 : decode cX3_addTo 14 = .ok (.iload_n 2, 1) := by decide +kernel
theorem dX3_addTo_15 : decode cX3_addTo 15 = .ok (.bipush 8, 2) := by decide +kernel
theorem dX3_addTo_17 : decode cX3_addTo 17 = .ok (.if_icmp .ge 20, 3) := by decide +kernel
theorem dX3_addTo_20 : decode cX3_addTo 20 = .ok (.aload_n 0, 1) := by decide +kernel
theorem dX3_addTo_21 : decode cX3_addTo 21 = .ok (.getfield 15, 3) := by decide +kernel
theorem dX3_addTo_24 : decode cX3_addTo 24 = .ok (.iload_n 1, 1) := by decide +kernel
theorem dX3_addTo_25 : decode cX3_addTo 25 = .ok (.iconst 1, 1) := by decide +kernel
theorem dX3_addTo_26 : decode cX3_addTo 26 = .ok (.isub, 1) := by decide +kernel
theorem dX3_addTo_27 : decode cX3_addTo 27 = .ok (.bipush 8, 2) := by decide +kernel
theorem dX3_addTo_29 : decode cX3_addTo 29 = .ok (.imul, 1) := by decide +kernel
theorem dX3_addTo_30 : decode cX3_addTo 30 = .ok (.iload_n 2, 1) := by decide +kernel
theorem dX3_addTo_31 : decode cX3_addTo 31 = .ok (.iadd, 1) := by decide +kernel
theorem dX3_addTo_32 : decode cX3_addTo 32 = .ok (.dup2, 1) := by decide +kernel
theorem dX3_addTo_33 : decode cX3_addTo 33 = .ok (.laload, 1) := by decide +kernel
theorem dX3_addTo_34 : decode cX3_addTo 34 = .ok (.lload_n 3, 1) := by decide +kernel
theorem dX3_addTo_35 : decode cX3_addTo 35 = .ok (.ladd, 1) := by decide +kernel
theorem dX3_addTo_36 : decode cX3_addTo 36 = .ok (.lastore, 1) := by decide +kernel
theorem dX3_addTo_37 : decode cX3_addTo 37 = .ok (.return_, 1) := by decide +kernel
theorem dX3_entry_0 : decode cX3_entry 0 = .ok (.iload_n 1, 1) := by decide +kernel
theorem dX3_entry_1 : decode cX3_entry 1 = .ok (.ifCond .lt 18, 3) := by decide +kernel
theorem dX3_entry_4 : decode cX3_entry 4 = .ok (.iload_n 1, 1) := by decide +kernel
theorem dX3_entry_5 : decode cX3_entry 5 = .ok (.iconst 5, 1) := by decide +kernel
theorem dX3_entry_6 : decode cX3_entry 6 = .ok (.if_icmp .ge 13, 3) := by decide +kernel
theorem dX3_entry_9 : decode cX3_entry 9 = .ok (.iload_n 2, 1) := by decide +kernel
theorem dX3_entry_10 : decode cX3_entry 10 = .ok (.ifCond .lt 9, 3) := by decide +kernel
theorem dX3_entry_13 : decode cX3_entry 13 = .ok (.iload_n 2, 1) := by decide +kernel
theorem dX3_entry_14 : decode cX3_entry 14 = .ok (.bipush 8, 2) := by decide +kernel
theorem dX3_entry_16 : decode cX3_entry 16 = .ok (.if_icmp .lt 5, 3) := by decide +kernel
theorem dX3_entry_19 : decode cX3_entry 19 = .ok (.lconst 0, 1) := by decide +kernel
theorem dX3_entry_20 : decode cX3_entry 20 = .ok (.lreturn, 1) := by decide +kernel
theorem dX3_entry_21 : decode cX3_entry 21 = .ok (.aload_n 0, 1) := by decide +kernel
theorem dX3_entry_22 : decode cX3_entry 22 = .ok (.getfield 15, 3) := by decide +kernel
theorem dX3_entry_25 : decode cX3_entry 25 = .ok (.iload_n 1, 1) := by decide +kernel
theorem dX3_entry_26 : decode cX3_entry 26 = .ok (.bipush 8, 2) := by decide +kernel
theorem dX3_entry_28 : decode cX3_entry 28 = .ok (.imul, 1) := by decide +kernel
theorem dX3_entry_29 : decode cX3_entry 29 = .ok (.iload_n 2, 1) := by decide +kernel
theorem dX3_entry_30 : decode cX3_entry 30 = .ok (.iadd, 1) := by decide +kernel
theorem dX3_entry_31 : decode cX3_entry 31 = .ok (.laload, 1) := by decide +kernel
theorem dX3_entry_32 : decode cX3_entry 32 = .ok (.lreturn, 1) := by decide +kernel
set_option maxRecDepth 20000 in
theorem ggX3_solve_X3_entry : GoodIn wsX3_solve wsX3_entry := goodIn_r _ [6, 7, 12, 13, 14, 15] (by decide +kernel) (by decide +kernel)
set_option maxRecDepth 20000 in
theorem gX3_solve_X3_entry : GoodIn wsX3_solve (wsV RX3 98 RX3 yX3_entry wsX3_entry) := goodIn_app (goodIn_of _ (by decide +kernel)) ggX3_solve_X3_entry
set_option maxRecDepth 20000 in
theorem ggX3_solve_X3_eliminate : GoodIn wsX3_solve wsX3_eliminate := goodIn_r _ [11, 1, 7, 2, 3, 4, 5, 6, 12, 13, 14, 15] (by decide +kernel) (by decide +kernel)
set_option maxRecDepth 20000 in
theorem gX3_solve_X3_eliminate : GoodIn wsX3_solve (wsV RX3 102 RX3 yX3_eliminate wsX3_eliminate) := goodIn_app (goodIn_of _ (by decide +kernel)) ggX3_solve_X3_eliminate
theorem dX3_solve_0 : decode cX3_solve 0 = .ok (.aload_n 0, 1) := by decide +kernel
theorem dX3_solve_1 : decode cX3_solve 1 = .ok (.lconst 1, 1) := by decide +kernel
theorem dX3_solve_2 : decode cX3_solve 2 = .ok (.putfield 19, 3) := by decide +kernel
theorem dX3_solve_5 : decode cX3_solve 5 = .ok (.iconst 0, 1) := by decide +kernel
theorem dX3_solve_6 : decode cX3_solve 6 = .ok (.istore_n 1, 1) := by decide +kernel
theorem dX3_solve_7 : decode cX3_solve 7 = .ok (.iload_n 1, 1) := by decide +kernel
theorem dX3_solve_8 : decode cX3_solve 8 = .ok (.iconst 5, 1) := by decide +kernel
theorem dX3_solve_9 : decode cX3_solve 9 = .ok (.if_icmp .ge 50, 3) := by decide +kernel
theorem dX3_solve_12 : decode cX3_solve 12 = .ok (.aload_n 0, 1) := by decide +kernel
theorem dX3_solve_13 : decode cX3_solve 13 = .ok (.iload_n 1, 1) := by decide +kernel
theorem dX3_solve_14 : decode cX3_solve 14 = .ok (.iload_n 1, 1) := by decide +kernel
theorem dX3_solve_15 : decode cX3_solve 15 = .ok (.invokevirtual 98, 3) := by decide +kernel
theorem dX3_solve_18 : decode cX3_solve 18 = .ok (.lstore_n 2, 1) := by decide +kernel
theorem dX3_solve_19 : decode cX3_solve 19 = .ok (.iconst 0, 1) := by decide +kernel
theorem dX3_solve_20 : decode cX3_solve 20 = .ok (.istore 4, 2) := by decide +kernel
theorem dX3_solve_22 : decode cX3_solve 22 = .ok (.iload 4, 2) := by decide +kernel
theorem dX3_solve_24 : decode cX3_solve 24 = .ok (.iconst 5, 1) := by decide +kernel
theorem dX3_solve_25 : decode cX3_solve 25 = .ok (.if_icmp .ge 23, 3) := by decide +kernel
theorem dX3_solve_28 : decode cX3_solve 28 = .ok (.iload 4, 2) := by decide +kernel
theorem dX3_solve_30 : decode cX3_solve 30 = .ok (.iload_n 1, 1) := by decide +kernel
theorem dX3_solve_31 : decode cX3_solve 31 = .ok (.if_icmp .eq 11, 3) := by decide +kernel
theorem dX3_solve_34 : decode cX3_solve 34 = .ok (.aload_n 0, 1) := by decide +kernel
theorem dX3_solve_35 : decode cX3_solve 35 = .ok (.iload 4, 2) := by decide +kernel
theorem dX3_solve_37 : decode cX3_solve 37 = .ok (.iload_n 1, 1) := by decide +kernel
theorem dX3_solve_38 : decode cX3_solve 38 = .ok (.lload_n 2, 1) := by decide +kernel
theorem dX3_solve_39 : decode cX3_solve 39 = .ok (.invokevirtual 102, 3) := by decide +kernel
theorem dX3_solve_42 : decode cX3_solve 42 = .ok (.iinc 4 1, 3) := by decide +kernel
theorem dX3_solve_45 : decode cX3_solve 45 = .ok (.goto (-23), 3) := by decide +kernel
theorem dX3_solve_48 : decode cX3_solve 48 = .ok (.aload_n 0, 1) := by decide +kernel
theorem dX3_solve_49 : decode cX3_solve 49 = .ok (.lload_n 2, 1) := by decide +kernel
theorem dX3_solve_50 : decode cX3_solve 50 = .ok (.putfield 19, 3) := by decide +kernel
theorem dX3_solve_53 : decode cX3_solve 53 = .ok (.iinc 1 1, 3) := by decide +kernel
theorem dX3_solve_56 : decode cX3_solve 56 = .ok (.goto (-49), 3) := by decide +kernel
theorem dX3_solve_59 : decode cX3_solve 59 = .ok (.return_, 1) := by decide +kernel
set_option maxRecDepth 20000 in
theorem ggX3_eliminate_X3_entry : GoodIn wsX3_eliminate wsX3_entry := goodIn_r _ [7, 2, 8, 9, 10, 11] (by decide +kernel) (by decide +kernel)
set_option maxRecDepth 20000 in
theorem gX3_eliminate_X3_entry : GoodIn wsX3_eliminate (wsV RX3 98 RX3 yX3_entry wsX3_entry) := goodIn_app (goodIn_of _ (by decide +kernel)) ggX3_eliminate_X3_entry
theorem dX3_eliminate_0 : decode cX3_eliminate 0 = .ok (.aload_n 0, 1) := by decide +kernel
theorem dX3_eliminate_1 : decode cX3_eliminate 1 = .ok (.iload_n 1, 1) := by decide +kernel
theorem dX3_eliminate_2 : decode cX3_eliminate 2 = .ok (.iload_n 2, 1) := by decide +kernel
theorem dX3_eliminate_3 : decode cX3_eliminate 3 = .ok (.invokevirtual 98, 3) := by decide +kernel
theorem dX3_eliminate_6 : decode cX3_eliminate 6 = .ok (.lstore 5, 2) := by decide +kernel
theorem dX3_eliminate_8 : decode cX3_eliminate 8 = .ok (.iconst 0, 1) := by decide +kernel
theorem dX3_eliminate_9 : decode cX3_eliminate 9 = .ok (.istore 7, 2) := by decide +kernel
theorem dX3_eliminate_11 : decode cX3_eliminate 11 = .ok (.iload 7, 2) := by decide +kernel
theorem dX3_eliminate_13 : decode cX3_eliminate 13 = .ok (.bipush 8, 2) := by decide +kernel
theorem dX3_eliminate_15 : decode cX3_eliminate 15 = .ok (.if_icmp .ge 74, 3) := by decide +kernel
theorem dX3_eliminate_18 : decode cX3_eliminate 18 = .ok (.iload_n 1, 1) := by decide +kernel
theorem dX3_eliminate_19 : decode cX3_eliminate 19 = .ok (.bipush 8, 2) := by decide +kernel
theorem dX3_eliminate_21 : decode cX3_eliminate 21 = .ok (.imul, 1) := by decide +kernel
theorem dX3_eliminate_22 : decode cX3_eliminate 22 = .ok (.iload 7, 2) := by decide +kernel
theorem dX3_eliminate_24 : decode cX3_eliminate 24 = .ok (.iadd, 1) := by decide +kernel
theorem dX3_eliminate_25 : decode cX3_eliminate 25 = .ok (.istore 8, 2) := by decide +kernel
theorem dX3_eliminate_27 : decode cX3_eliminate 27 = .ok (.aload_n 0, 1) := by decide +kernel
theorem dX3_eliminate_28 : decode cX3_eliminate 28 = .ok (.getfield 19, 3) := by decide +kernel
theorem dX3_eliminate_31 : decode cX3_eliminate 31 = .ok (.lconst 0, 1) := by decide +kernel
theorem dX3_eliminate_32 : decode cX3_eliminate 32 = .ok (.lcmp, 1) := by decide +kernel
theorem dX3_eliminate_33 : decode cX3_eliminate 33 = .ok (.ifCond .eq 50, 3) := by decide +kernel
theorem dX3_eliminate_36 : decode cX3_eliminate 36 = .ok (.iload 8, 2) := by decide +kernel
theorem dX3_eliminate_38 : decode cX3_eliminate 38 = .ok (.ifCond .lt 45, 3) := by decide +kernel
theorem dX3_eliminate_41 : decode cX3_eliminate 41 = .ok (.iload 8, 2) := by decide +kernel
theorem dX3_eliminate_43 : decode cX3_eliminate 43 = .ok (.aload_n 0, 1) := by decide +kernel
theorem dX3_eliminate_44 : decode cX3_eliminate 44 = .ok (.getfield 15, 3) := by decide +kernel
theorem dX3_eliminate_47 : decode cX3_eliminate 47 = .ok (.arraylength, 1) := by decide +kernel
theorem dX3_eliminate_48 : decode cX3_eliminate 48 = .ok (.if_icmp .ge 35, 3) := by decide +kernel
theorem dX3_eliminate_51 : decode cX3_eliminate 51 = .ok (.aload_n 0, 1) := by decide +kernel
theorem dX3_eliminate_52 : decode cX3_eliminate 52 = .ok (.getfield 15, 3) := by decide +kernel
theorem dX3_eliminate_55 : decode cX3_eliminate 55 = .ok (.iload 8, 2) := by decide +kernel
theorem dX3_eliminate_57 : decode cX3_eliminate 57 = .ok (.lload_n 3, 1) := by decide +kernel
theorem dX3_eliminate_58 : decode cX3_eliminate 58 = .ok (.aload_n 0, 1) := by decide +kernel
theorem dX3_eliminate_59 : decode cX3_eliminate 59 = .ok (.getfield 15, 3) := by decide +kernel
theorem dX3_eliminate_62 : decode cX3_eliminate 62 = .ok (.iload 8, 2) := by decide +kernel
theorem dX3_eliminate_64 : decode cX3_eliminate 64 = .ok (.laload, 1) := by decide +kernel
theorem dX3_eliminate_65 : decode cX3_eliminate 65 = .ok (.lmul, 1) := by decide +kernel
theorem dX3_eliminate_66 : decode cX3_eliminate 66 = .ok (.lload 5, 2) := by decide +kernel
theorem dX3_eliminate_68 : decode cX3_eliminate 68 = .ok (.aload_n 0, 1) := by decide +kernel
theorem dX3_eliminate_69 : decode cX3_eliminate 69 = .ok (.iload_n 2, 1) := by decide +kernel
theorem dX3_eliminate_70 : decode cX3_eliminate 70 = .ok (.iload 7, 2) := by decide +kernel
theorem dX3_eliminate_72 : decode cX3_eliminate 72 = .ok (.invokevirtual 98, 3) := by decide +kernel
theorem dX3_eliminate_75 : decode cX3_eliminate 75 = .ok (.lmul, 1) := by decide +kernel
theorem dX3_eliminate_76 : decode cX3_eliminate 76 = .ok (.lsub, 1) := by decide +kernel
theorem dX3_eliminate_77 : decode cX3_eliminate 77 = .ok (.aload_n 0, 1) := by decide +kernel
theorem dX3_eliminate_78 : decode cX3_eliminate 78 = .ok (.getfield 19, 3) := by decide +kernel
theorem dX3_eliminate_81 : decode cX3_eliminate 81 = .ok (.ldiv, 1) := by decide +kernel
theorem dX3_eliminate_82 : decode cX3_eliminate 82 = .ok (.lastore, 1) := by decide +kernel
theorem dX3_eliminate_83 : decode cX3_eliminate 83 = .ok (.iinc 7 1, 3) := by decide +kernel
theorem dX3_eliminate_86 : decode cX3_eliminate 86 = .ok (.goto (-75), 3) := by decide +kernel
theorem dX3_eliminate_89 : decode cX3_eliminate 89 = .ok (.return_, 1) := by decide +kernel
set_option maxRecDepth 20000 in
theorem ggX3_coordinate_X3_entry : GoodIn wsX3_coordinate wsX3_entry := goodIn_r _ [5, 6, 7, 8, 9, 10] (by decide +kernel) (by decide +kernel)
set_option maxRecDepth 20000 in
theorem gX3_coordinate_X3_entry : GoodIn wsX3_coordinate (wsV RX3 98 RX3 yX3_entry wsX3_entry) := goodIn_app (goodIn_of _ (by decide +kernel)) ggX3_coordinate_X3_entry
theorem dX3_coordinate_0 : decode cX3_coordinate 0 = .ok (.aload_n 0, 1) := by decide +kernel
theorem dX3_coordinate_1 : decode cX3_coordinate 1 = .ok (.iload_n 1, 1) := by decide +kernel
theorem dX3_coordinate_2 : decode cX3_coordinate 2 = .ok (.iconst 1, 1) := by decide +kernel
theorem dX3_coordinate_3 : decode cX3_coordinate 3 = .ok (.isub, 1) := by decide +kernel
theorem dX3_coordinate_4 : decode cX3_coordinate 4 = .ok (.iconst 5, 1) := by decide +kernel
theorem dX3_coordinate_5 : decode cX3_coordinate 5 = .ok (.iload_n 2, 1) := by decide +kernel
theorem dX3_coordinate_6 : decode cX3_coordinate 6 = .ok (.iadd, 1) := by decide +kernel
theorem dX3_coordinate_7 : decode cX3_coordinate 7 = .ok (.invokevirtual 98, 3) := by decide +kernel
theorem dX3_coordinate_10 : decode cX3_coordinate 10 = .ok (.lreturn, 1) := by decide +kernel
set_option maxRecDepth 20000 in
theorem ggX3_residual_X0_get : GoodIn wsX3_residual wsX0_get := goodIn_r _ [6, 7, 41, 42, 43] (by decide +kernel) (by decide +kernel)
set_option maxRecDepth 20000 in
theorem gX3_residual_X0_get : GoodIn wsX3_residual (wsV RX3 35 RX0 yX0_get wsX0_get) := goodIn_app (goodIn_of _ (by decide +kernel)) ggX3_residual_X0_get
set_option maxRecDepth 20000 in
theorem ggX3_residual_X3_coordinate : GoodIn wsX3_residual wsX3_coordinate := goodIn_r _ [12, 13, 14, 15, 11, 16, 17, 37, 38, 39, 40] (by decide +kernel) (by decide +kernel)
set_option maxRecDepth 20000 in
theorem gX3_residual_X3_coordinate : GoodIn wsX3_residual (wsV RX3 105 RX3 yX3_coordinate wsX3_coordinate) := goodIn_app (goodIn_of _ (by decide +kernel)) ggX3_residual_X3_coordinate
set_option maxRecDepth 20000 in
theorem ggX3_residual_X0_vector : GoodIn wsX3_residual wsX0_vector := goodIn_r _ [21, 22, 3, 4, 5, 6, 7, 23, 24, 25, 26, 27, 28, 29, 30, 31, 32, 33, 34, 35, 36, 41, 42, 43] (by decide +kernel) (by decide +kernel)
set_option maxRecDepth 20000 in
theorem gX3_residual_X0_vector : GoodIn wsX3_residual (wsV RX3 43 RX0 yX0_vector wsX0_vector) := goodIn_app (goodIn_of _ (by decide +kernel)) ggX3_residual_X0_vector
theorem dX3_residual_0 : decode cX3_residual 0 = .ok (.aload_n 0, 1) := by decide +kernel
theorem dX3_residual_1 : decode cX3_residual 1 = .ok (.aload_n 1, 1) := by decide +kernel
theorem dX3_residual_2 : decode cX3_residual 2 = .ok (.iload_n 2, 1) := by decide +kernel
theorem dX3_residual_3 : decode cX3_residual 3 = .ok (.iconst 5, 1) := by decide +kernel
theorem dX3_residual_4 : decode cX3_residual 4 = .ok (.invokevirtual 35, 3) := by decide +kernel
theorem dX3_residual_7 : decode cX3_residual 7 = .ok (.iload_n 3, 1) := by decide +kernel
theorem dX3_residual_8 : decode cX3_residual 8 = .ok (.invokevirtual 105, 3) := by decide +kernel
theorem dX3_residual_11 : decode cX3_residual 11 = .ok (.aload_n 0, 1) := by decide +kernel
theorem dX3_residual_12 : decode cX3_residual 12 = .ok (.aload_n 1, 1) := by decide +kernel
theorem dX3_residual_13 : decode cX3_residual 13 = .ok (.iload_n 2, 1) := by decide +kernel
theorem dX3_residual_14 : decode cX3_residual 14 = .ok (.iconst 4, 1) := by decide +kernel
theorem dX3_residual_15 : decode cX3_residual 15 = .ok (.invokevirtual 35, 3) := by decide +kernel
theorem dX3_residual_18 : decode cX3_residual 18 = .ok (.iload_n 3, 1) := by decide +kernel
theorem dX3_residual_19 : decode cX3_residual 19 = .ok (.invokevirtual 105, 3) := by decide +kernel
theorem dX3_residual_22 : decode cX3_residual 22 = .ok (.lsub, 1) := by decide +kernel
theorem dX3_residual_23 : decode cX3_residual 23 = .ok (.lstore 4, 2) := by decide +kernel
theorem dX3_residual_25 : decode cX3_residual 25 = .ok (.aload_n 1, 1) := by decide +kernel
theorem dX3_residual_26 : decode cX3_residual 26 = .ok (.iload_n 2, 1) := by decide +kernel
theorem dX3_residual_27 : decode cX3_residual 27 = .ok (.iload_n 3, 1) := by decide +kernel
theorem dX3_residual_28 : decode cX3_residual 28 = .ok (.invokevirtual 43, 3) := by decide +kernel
theorem dX3_residual_31 : decode cX3_residual 31 = .ok (.i2l, 1) := by decide +kernel
theorem dX3_residual_32 : decode cX3_residual 32 = .ok (.aload_n 0, 1) := by decide +kernel
theorem dX3_residual_33 : decode cX3_residual 33 = .ok (.getfield 19, 3) := by decide +kernel
theorem dX3_residual_36 : decode cX3_residual 36 = .ok (.lmul, 1) := by decide +kernel
theorem dX3_residual_37 : decode cX3_residual 37 = .ok (.lload 4, 2) := by decide +kernel
theorem dX3_residual_39 : decode cX3_residual 39 = .ok (.lsub, 1) := by decide +kernel
theorem dX3_residual_40 : decode cX3_residual 40 = .ok (.lreturn, 1) := by decide +kernel
set_option maxRecDepth 20000 in
theorem ggX3_squareOf_X3_residual : GoodIn wsX3_squareOf wsX3_residual := goodIn_r _ [5, 6, 7, 8, 9, 10, 11, 12, 13, 14, 15, 4, 16, 17, 18, 19, 20, 21, 22, 23, 24, 25, 26, 27, 28, 29, 30, 31, 32, 33, 34, 35, 36, 37, 38, 39, 40, 41, 42, 43, 44, 45, 46, 47] (by decide +kernel) (by decide +kernel)
set_option maxRecDepth 20000 in
theorem gX3_squareOf_X3_residual : GoodIn wsX3_squareOf (wsV RX3 108 RX3 yX3_residual wsX3_residual) := goodIn_app (goodIn_of _ (by decide +kernel)) ggX3_squareOf_X3_residual
theorem dX3_squareOf_0 : decode cX3_squareOf 0 = .ok (.lconst 0, 1) := by decide +kernel
theorem dX3_squareOf_1 : decode cX3_squareOf 1 = .ok (.lstore_n 3, 1) := by decide +kernel
theorem dX3_squareOf_2 : decode cX3_squareOf 2 = .ok (.iconst 0, 1) := by decide +kernel
theorem dX3_squareOf_3 : decode cX3_squareOf 3 = .ok (.istore 5, 2) := by decide +kernel
theorem dX3_squareOf_5 : decode cX3_squareOf 5 = .ok (.iload 5, 2) := by decide +kernel
theorem dX3_squareOf_7 : decode cX3_squareOf 7 = .ok (.iconst 3, 1) := by decide +kernel
theorem dX3_squareOf_8 : decode cX3_squareOf 8 = .ok (.if_icmp .ge 27, 3) := by decide +kernel
theorem dX3_squareOf_11 : decode cX3_squareOf 11 = .ok (.aload_n 0, 1) := by decide +kernel
theorem dX3_squareOf_12 : decode cX3_squareOf 12 = .ok (.aload_n 1, 1) := by decide +kernel
theorem dX3_squareOf_13 : decode cX3_squareOf 13 = .ok (.iload_n 2, 1) := by decide +kernel
theorem dX3_squareOf_14 : decode cX3_squareOf 14 = .ok (.iload 5, 2) := by decide +kernel
theorem dX3_squareOf_16 : decode cX3_squareOf 16 = .ok (.invokevirtual 108, 3) := by decide +kernel
theorem dX3_squareOf_19 : decode cX3_squareOf 19 = .ok (.lstore 6, 2) := by decide +kernel
theorem dX3_squareOf_21 : decode cX3_squareOf 21 = .ok (.lload_n 3, 1) := by decide +kernel
theorem dX3_squareOf_22 : decode cX3_squareOf 22 = .ok (.lload 6, 2) := by decide +kernel
theorem dX3_squareOf_24 : decode cX3_squareOf 24 = .ok (.lload 6, 2) := by decide +kernel
theorem dX3_squareOf_26 : decode cX3_squareOf 26 = .ok (.lmul, 1) := by decide +kernel
theorem dX3_squareOf_27 : decode cX3_squareOf 27 = .ok (.ladd, 1) := by decide +kernel
theorem dX3_squareOf_28 : decode cX3_squareOf 28 = .ok (.lstore_n 3, 1) := by decide +kernel
theorem dX3_squareOf_29 : decode cX3_squareOf 29 = .ok (.iinc 5 1, 3) := by decide +kernel
theorem dX3_squareOf_32 : decode cX3_squareOf 32 = .ok (.goto (-27), 3) := by decide +kernel
theorem dX3_squareOf_35 : decode cX3_squareOf 35 = .ok (.lload_n 3, 1) := by decide +kernel
theorem dX3_squareOf_36 : decode cX3_squareOf 36 = .ok (.lreturn, 1) := by decide +kernel
set_option maxRecDepth 20000 in
theorem ggX3_blunder_X0_spare : GoodIn wsX3_blunder wsX0_spare := goodIn_r _ [8, 9, 10, 11, 12, 7, 13, 14, 15, 16, 17, 18, 19, 20, 21, 22, 98, 99, 100] (by decide +kernel) (by decide +kernel)
set_option maxRecDepth 20000 in
theorem gX3_blunder_X0_spare : GoodIn wsX3_blunder (wsV RX3 112 RX0 yX0_spare wsX0_spare) := goodIn_app (goodIn_of _ (by decide +kernel)) ggX3_blunder_X0_spare
set_option maxRecDepth 20000 in
theorem ggX3_blunder_X5_holds : GoodIn wsX3_blunder wsX5_holds := goodIn_r _ [25] (by decide +kernel) (by decide +kernel)
set_option maxRecDepth 20000 in
theorem gX3_blunder_X5_holds_n39 : GoodIn wsX3_blunder (wsX5_holds) := ggX3_blunder_X5_holds
set_option maxRecDepth 20000 in
theorem ggX3_blunder_X0_all : GoodIn wsX3_blunder wsX0_all := goodIn_r _ [17, 9, 98, 99, 100] (by decide +kernel) (by decide +kernel)
set_option maxRecDepth 20000 in
theorem gX3_blunder_X0_all : GoodIn wsX3_blunder (wsV RX3 115 RX0 yX0_all wsX0_all) := goodIn_app (goodIn_of _ (by decide +kernel)) ggX3_blunder_X0_all
set_option maxRecDepth 20000 in
theorem ggX3_blunder_X3_adjust : GoodIn wsX3_blunder wsX3_adjust := goodIn_r _ [31, 32, 1, 3, 33, 19, 20, 7, 21, 22, 34, 35, 36, 37, 9, 38, 39, 40, 41, 42, 43, 44, 45, 23, 24, 25, 46, 47, 48, 30, 49, 50, 51, 52, 53, 54, 55, 56, 57, 58, 59, 60, 61, 62, 63, 64, 65, 66, 67, 68, 69, 70, 71, 72, 73, 74, 75, 76, 77, 2, 78, 79, 80, 81, 82, 83, 84, 85, 86, 87, 88, 89, 90, 91, 92, 93, 94, 95, 96, 97, 101, 102, 103, 104, 98, 99, 100] (by decide +kernel) (by decide +kernel)
set_option maxRecDepth 20000 in
theorem gX3_blunder_X3_adjust : GoodIn wsX3_blunder (wsV RX3 118 RX3 yX3_adjust wsX3_adjust) := goodIn_app (goodIn_of _ (by decide +kernel)) ggX3_blunder_X3_adjust
theorem dX3_blunder_0 : decode cX3_blunder 0 = .ok (.aload_n 1, 1) := by decide +kernel
theorem dX3_blunder_1 : decode cX3_blunder 1 = .ok (.invokevirtual 112, 3) := by decide +kernel
theorem dX3_blunder_4 : decode cX3_blunder 4 = .ok (.istore_n 2, 1) := by decide +kernel
theorem dX3_blunder_5 : decode cX3_blunder 5 = .ok (.bipush (-9), 2) := by decide +kernel
theorem dX3_blunder_7 : decode cX3_blunder 7 = .ok (.istore_n 3, 1) := by decide +kernel
theorem dX3_blunder_8 : decode cX3_blunder 8 = .ok (.lconst 0, 1) := by decide +kernel
theorem dX3_blunder_9 : decode cX3_blunder 9 = .ok (.lstore 4, 2) := by decide +kernel
theorem dX3_blunder_11 : decode cX3_blunder 11 = .ok (.lconst 1, 1) := by decide +kernel
theorem dX3_blunder_12 : decode cX3_blunder 12 = .ok (.lstore 6, 2) := by decide +kernel
theorem dX3_blunder_14 : decode cX3_blunder 14 = .ok (.iconst 0, 1) := by decide +kernel
theorem dX3_blunder_15 : decode cX3_blunder 15 = .ok (.istore 8, 2) := by decide +kernel
theorem dX3_blunder_17 : decode cX3_blunder 17 = .ok (.iload 8, 2) := by decide +kernel
theorem dX3_blunder_19 : decode cX3_blunder 19 = .ok (.aload_n 1, 1) := by decide +kernel
theorem dX3_blunder_20 : decode cX3_blunder 20 = .ok (.getfield 78, 3) := by decide +kernel
theorem dX3_blunder_23 : decode cX3_blunder 23 = .ok (.if_icmp .ge 80, 3) := by decide +kernel
theorem dX3_blunder_26 : decode cX3_blunder 26 = .ok (.iload_n 2, 1) := by decide +kernel
theorem dX3_blunder_27 : decode cX3_blunder 27 = .ok (.iload 8, 2) := by decide +kernel
theorem dX3_blunder_29 : decode cX3_blunder 29 = .ok (.invokestatic 39, 3) := by decide +kernel
theorem dX3_blunder_32 : decode cX3_blunder 32 = .ok (.ifCond .eq 65, 3) := by decide +kernel
theorem dX3_blunder_35 : decode cX3_blunder 35 = .ok (.aload_n 0, 1) := by decide +kernel
theorem dX3_blunder_36 : decode cX3_blunder 36 = .ok (.aload_n 1, 1) := by decide +kernel
theorem dX3_blunder_37 : decode cX3_blunder 37 = .ok (.aload_n 1, 1) := by decide +kernel
theorem dX3_blunder_38 : decode cX3_blunder 38 = .ok (.invokevirtual 115, 3) := by decide +kernel
theorem dX3_blunder_41 : decode cX3_blunder 41 = .ok (.iconst 1, 1) := by decide +kernel
theorem dX3_blunder_42 : decode cX3_blunder 42 = .ok (.iload 8, 2) := by decide +kernel
theorem dX3_blunder_44 : decode cX3_blunder 44 = .ok (.ishl, 1) := by decide +kernel
theorem dX3_blunder_45 : decode cX3_blunder 45 = .ok (.iconst (-1), 1) := by decide +kernel
theorem dX3_blunder_46 : decode cX3_blunder 46 = .ok (.ixor, 1) := by decide +kernel
theorem dX3_blunder_47 : decode cX3_blunder 47 = .ok (.iand, 1) := by decide +kernel
theorem dX3_blunder_48 : decode cX3_blunder 48 = .ok (.invokevirtual 118, 3) := by decide +kernel
theorem dX3_blunder_51 : decode cX3_blunder 51 = .ok (.aload_n 0, 1) := by decide +kernel
theorem dX3_blunder_52 : decode cX3_blunder 52 = .ok (.getfield 19, 3) := by decide +kernel
theorem dX3_blunder_55 : decode cX3_blunder 55 = .ok (.aload_n 0, 1) := by decide +kernel
theorem dX3_blunder_56 : decode cX3_blunder 56 = .ok (.getfield 19, 3) := by decide +kernel
theorem dX3_blunder_59 : decode cX3_blunder 59 = .ok (.lmul, 1) := by decide +kernel
theorem dX3_blunder_60 : decode cX3_blunder 60 = .ok (.lstore 9, 2) := by decide +kernel
theorem dX3_blunder_62 : decode cX3_blunder 62 = .ok (.iload_n 3, 1) := by decide +kernel
theorem dX3_blunder_63 : decode cX3_blunder 63 = .ok (.bipush (-9), 2) := by decide +kernel
theorem dX3_blunder_65 : decode cX3_blunder 65 = .ok (.if_icmp .eq 19, 3) := by decide +kernel
theorem dX3_blunder_68 : decode cX3_blunder 68 = .ok (.aload_n 0, 1) := by decide +kernel
theorem dX3_blunder_69 : decode cX3_blunder 69 = .ok (.getfield 89, 3) := by decide +kernel
theorem dX3_blunder_72 : decode cX3_blunder 72 = .ok (.lload 6, 2) := by decide +kernel
theorem dX3_blunder_74 : decode cX3_blunder 74 = .ok (.lmul, 1) := by decide +kernel
theorem dX3_blunder_75 : decode cX3_blunder 75 = .ok (.lload 4, 2) := by decide +kernel
theorem dX3_blunder_77 : decode cX3_blunder 77 = .ok (.lload 9, 2) := by decide +kernel
theorem dX3_blunder_79 : decode cX3_blunder 79 = .ok (.lmul, 1) := by decide +kernel
theorem dX3_blunder_80 : decode cX3_blunder 80 = .ok (.lcmp, 1) := by decide +kernel
theorem dX3_blunder_81 : decode cX3_blunder 81 = .ok (.ifCond .ge 16, 3) := by decide +kernel
theorem dX3_blunder_84 : decode cX3_blunder 84 = .ok (.iload 8, 2) := by decide +kernel
theorem dX3_blunder_86 : decode cX3_blunder 86 = .ok (.istore_n 3, 1) := by decide +kernel
theorem dX3_blunder_87 : decode cX3_blunder 87 = .ok (.aload_n 0, 1) := by decide +kernel
theorem dX3_blunder_88 : decode cX3_blunder 88 = .ok (.getfield 89, 3) := by decide +kernel
theorem dX3_blunder_91 : decode cX3_blunder 91 = .ok (.lstore 4, 2) := by decide +kernel
theorem dX3_blunder_93 : decode cX3_blunder 93 = .ok (.lload 9, 2) := by decide +kernel
theorem dX3_blunder_95 : decode cX3_blunder 95 = .ok (.lstore 6, 2) := by decide +kernel
theorem dX3_blunder_97 : decode cX3_blunder 97 = .ok (.iinc 8 1, 3) := by decide +kernel
theorem dX3_blunder_100 : decode cX3_blunder 100 = .ok (.goto (-83), 3) := by decide +kernel
theorem dX3_blunder_103 : decode cX3_blunder 103 = .ok (.iload_n 3, 1) := by decide +kernel
theorem dX3_blunder_104 : decode cX3_blunder 104 = .ok (.ireturn, 1) := by decide +kernel
set_option maxRecDepth 20000 in
theorem ggX3_menders_X0_spare : GoodIn wsX3_menders wsX0_spare := goodIn_r _ [7, 8, 9, 10, 11, 6, 12, 13, 14, 15, 16, 17, 18, 19, 20, 21, 98, 99, 100] (by decide +kernel) (by decide +kernel)
set_option maxRecDepth 20000 in
theorem gX3_menders_X0_spare : GoodIn wsX3_menders (wsV RX3 112 RX0 yX0_spare wsX0_spare) := goodIn_app (goodIn_of _ (by decide +kernel)) ggX3_menders_X0_spare
set_option maxRecDepth 20000 in
theorem ggX3_menders_X5_holds : GoodIn wsX3_menders wsX5_holds := goodIn_r _ [24] (by decide +kernel) (by decide +kernel)
set_option maxRecDepth 20000 in
theorem gX3_menders_X5_holds_n39 : GoodIn wsX3_menders (wsX5_holds) := ggX3_menders_X5_holds
set_option maxRecDepth 20000 in
theorem ggX3_menders_X0_all : GoodIn wsX3_menders wsX0_all := goodIn_r _ [16, 8, 98, 99, 100] (by decide +kernel) (by decide +kernel)
set_option maxRecDepth 20000 in
theorem gX3_menders_X0_all : GoodIn wsX3_menders (wsV RX3 115 RX0 yX0_all wsX0_all) := goodIn_app (goodIn_of _ (by decide +kernel)) ggX3_menders_X0_all
set_option maxRecDepth 20000 in
theorem ggX3_menders_X3_adjust : GoodIn wsX3_menders wsX3_adjust := goodIn_r _ [30, 31, 1, 2, 32, 18, 19, 6, 20, 21, 33, 34, 35, 36, 8, 37, 38, 39, 40, 41, 42, 43, 44, 22, 23, 24, 45, 46, 47, 29, 48, 49, 50, 51, 52, 53, 54, 55, 56, 57, 58, 59, 60, 61, 62, 63, 64, 65, 66, 67, 68, 69, 70, 71, 72, 73, 74, 75, 76, 77, 78, 79, 80, 81, 82, 83, 84, 85, 86, 87, 88, 89, 90, 91, 92, 93, 94, 95, 96, 97, 101, 102, 103, 104, 98, 99, 100] (by decide +kernel) (by decide +kernel)
set_option maxRecDepth 20000 in
theorem gX3_menders_X3_adjust : GoodIn wsX3_menders (wsV RX3 118 RX3 yX3_adjust wsX3_adjust) := goodIn_app (goodIn_of _ (by decide +kernel)) ggX3_menders_X3_adjust
theorem dX3_menders_0 : decode cX3_menders 0 = .ok (.aload_n 1, 1) := by decide +kernel
theorem dX3_menders_1 : decode cX3_menders 1 = .ok (.invokevirtual 112, 3) := by decide +kernel
theorem dX3_menders_4 : decode cX3_menders 4 = .ok (.istore_n 2, 1) := by decide +kernel
theorem dX3_menders_5 : decode cX3_menders 5 = .ok (.iconst 0, 1) := by decide +kernel
theorem dX3_menders_6 : decode cX3_menders 6 = .ok (.istore_n 3, 1) := by decide +kernel
theorem dX3_menders_7 : decode cX3_menders 7 = .ok (.iconst 0, 1) := by decide +kernel
theorem dX3_menders_8 : decode cX3_menders 8 = .ok (.istore 4, 2) := by decide +kernel
theorem dX3_menders_10 : decode cX3_menders 10 = .ok (.iload 4, 2) := by decide +kernel
theorem dX3_menders_12 : decode cX3_menders 12 = .ok (.aload_n 1, 1) := by decide +kernel
theorem dX3_menders_13 : decode cX3_menders 13 = .ok (.getfield 78, 3) := by decide +kernel
theorem dX3_menders_16 : decode cX3_menders 16 = .ok (.if_icmp .ge 50, 3) := by decide +kernel
theorem dX3_menders_19 : decode cX3_menders 19 = .ok (.iload_n 2, 1) := by decide +kernel
theorem dX3_menders_20 : decode cX3_menders 20 = .ok (.iload 4, 2) := by decide +kernel
theorem dX3_menders_22 : decode cX3_menders 22 = .ok (.invokestatic 39, 3) := by decide +kernel
theorem dX3_menders_25 : decode cX3_menders 25 = .ok (.ifCond .eq 35, 3) := by decide +kernel
theorem dX3_menders_28 : decode cX3_menders 28 = .ok (.aload_n 0, 1) := by decide +kernel
theorem dX3_menders_29 : decode cX3_menders 29 = .ok (.aload_n 1, 1) := by decide +kernel
theorem dX3_menders_30 : decode cX3_menders 30 = .ok (.aload_n 1, 1) := by decide +kernel
theorem dX3_menders_31 : decode cX3_menders 31 = .ok (.invokevirtual 115, 3) := by decide +kernel
theorem dX3_menders_34 : decode cX3_menders 34 = .ok (.iconst 1, 1) := by decide +kernel
theorem dX3_menders_35 : decode cX3_menders 35 = .ok (.iload 4, 2) := by decide +kernel
theorem dX3_menders_37 : decode cX3_menders 37 = .ok (.ishl, 1) := by decide +kernel
theorem dX3_menders_38 : decode cX3_menders 38 = .ok (.iconst (-1), 1) := by decide +kernel
theorem dX3_menders_39 : decode cX3_menders 39 = .ok (.ixor, 1) := by decide +kernel
theorem dX3_menders_40 : decode cX3_menders 40 = .ok (.iand, 1) := by decide +kernel
theorem dX3_menders_41 : decode cX3_menders 41 = .ok (.invokevirtual 118, 3) := by decide +kernel
theorem dX3_menders_44 : decode cX3_menders 44 = .ok (.aload_n 0, 1) := by decide +kernel
theorem dX3_menders_45 : decode cX3_menders 45 = .ok (.getfield 89, 3) := by decide +kernel
theorem dX3_menders_48 : decode cX3_menders 48 = .ok (.lconst 0, 1) := by decide +kernel
theorem dX3_menders_49 : decode cX3_menders 49 = .ok (.lcmp, 1) := by decide +kernel
theorem dX3_menders_50 : decode cX3_menders 50 = .ok (.ifCond .ne 10, 3) := by decide +kernel
theorem dX3_menders_53 : decode cX3_menders 53 = .ok (.iload_n 3, 1) := by decide +kernel
theorem dX3_menders_54 : decode cX3_menders 54 = .ok (.iconst 1, 1) := by decide +kernel
theorem dX3_menders_55 : decode cX3_menders 55 = .ok (.iload 4, 2) := by decide +kernel
theorem dX3_menders_57 : decode cX3_menders 57 = .ok (.ishl, 1) := by decide +kernel
theorem dX3_menders_58 : decode cX3_menders 58 = .ok (.ior, 1) := by decide +kernel
theorem dX3_menders_59 : decode cX3_menders 59 = .ok (.istore_n 3, 1) := by decide +kernel
theorem dX3_menders_60 : decode cX3_menders 60 = .ok (.iinc 4 1, 3) := by decide +kernel
theorem dX3_menders_63 : decode cX3_menders 63 = .ok (.goto (-53), 3) := by decide +kernel
theorem dX3_menders_66 : decode cX3_menders 66 = .ok (.iload_n 3, 1) := by decide +kernel
theorem dX3_menders_67 : decode cX3_menders 67 = .ok (.ireturn, 1) := by decide +kernel
theorem dX4_init_0 : decode cX4_init 0 = .ok (.aload_n 0, 1) := by decide +kernel
theorem dX4_init_1 : decode cX4_init 1 = .ok (.invokespecial 3, 3) := by decide +kernel
theorem dX4_init_4 : decode cX4_init 4 = .ok (.aload_n 0, 1) := by decide +kernel
theorem dX4_init_5 : decode cX4_init 5 = .ok (.bipush 70, 2) := by decide +kernel
theorem dX4_init_7 : decode cX4_init 7 = .ok (.newarray .char, 2) := by decide +kernel
theorem dX4_init_9 : decode cX4_init 9 = .ok (.putfield 9, 3) := by decide +kernel
theorem dX4_init_12 : decode cX4_init 12 = .ok (.return_, 1) := by decide +kernel
theorem dX4_append_0 : decode cX4_append 0 = .ok (.aload_n 0, 1) := by decide +kernel
theorem dX4_append_1 : decode cX4_append 1 = .ok (.getfield 15, 3) := by decide +kernel
theorem dX4_append_4 : decode cX4_append 4 = .ok (.ifCond .lt 15, 3) := by decide +kernel
theorem dX4_append_7 : decode cX4_append 7 = .ok (.aload_n 0, 1) := by decide +kernel
theorem dX4_append_8 : decode cX4_append 8 = .ok (.getfield 15, 3) := by decide +kernel
theorem dX4_append_11 : decode cX4_append 11 = .ok (.aload_n 0, 1) := by decide +kernel
theorem dX4_append_12 : decode cX4_append 12 = .ok (.getfield 9, 3) := by decide +kernel
theorem dX4_append_15 : decode cX4_append 15 = .ok (.arraylength, 1) := by decide +kernel
theorem dX4_append_16 : decode cX4_append 16 = .ok (.if_icmp .lt 5, 3) := by decide +kernel
theorem dX4_append_19 : decode cX4_append 19 = .ok (.iconst 0, 1) := by decide +kernel
theorem dX4_append_20 : decode cX4_append 20 = .ok (.ireturn, 1) := by decide +kernel
theorem dX4_append_21 : decode cX4_append 21 = .ok (.aload_n 0, 1) := by decide +kernel
theorem dX4_append_22 : decode cX4_append 22 = .ok (.getfield 9, 3) := by decide +kernel
theorem dX4_append_25 : decode cX4_append 25 = .ok (.aload_n 0, 1) := by decide +kernel
theorem dX4_append_26 : decode cX4_append 26 = .ok (.getfield 15, 3) := by decide +kernel
theorem dX4_append_29 : decode cX4_append 29 = .ok (.iload_n 1, 1) := by decide +kernel
theorem dX4_append_30 : decode cX4_append 30 = .ok (.castore, 1) := by decide +kernel
theorem dX4_append_31 : decode cX4_append 31 = .ok (.aload_n 0, 1) := by decide +kernel
theorem dX4_append_32 : decode cX4_append 32 = .ok (.dup, 1) := by decide +kernel
theorem dX4_append_33 : decode cX4_append 33 = .ok (.getfield 15, 3) := by decide +kernel
theorem dX4_append_36 : decode cX4_append 36 = .ok (.iconst 1, 1) := by decide +kernel
theorem dX4_append_37 : decode cX4_append 37 = .ok (.iadd, 1) := by decide +kernel
theorem dX4_append_38 : decode cX4_append 38 = .ok (.putfield 15, 3) := by decide +kernel
theorem dX4_append_41 : decode cX4_append 41 = .ok (.iconst 1, 1) := by decide +kernel
theorem dX4_append_42 : decode cX4_append 42 = .ok (.ireturn, 1) := by decide +kernel
set_option maxRecDepth 20000 in
theorem ggX4_errorAt_X4_canStand : GoodIn wsX4_errorAt wsX4_canStand := goodIn_r _ [6, 7, 8, 9, 5, 10, 11, 12, 13, 14, 1, 15, 16, 17, 18, 19, 20] (by decide +kernel) (by decide +kernel)
set_option maxRecDepth 20000 in
theorem gX4_errorAt_X4_canStand : GoodIn wsX4_errorAt (wsV RX4 19 RX4 yX4_canStand wsX4_canStand) := goodIn_app (goodIn_of _ (by decide +kernel)) ggX4_errorAt_X4_canStand
theorem dX4_errorAt_0 : decode cX4_errorAt 0 = .ok (.iconst 0, 1) := by decide +kernel
theorem dX4_errorAt_1 : decode cX4_errorAt 1 = .ok (.istore_n 1, 1) := by decide +kernel
theorem dX4_errorAt_2 : decode cX4_errorAt 2 = .ok (.iload_n 1, 1) := by decide +kernel
theorem dX4_errorAt_3 : decode cX4_errorAt 3 = .ok (.aload_n 0, 1) := by decide +kernel
theorem dX4_errorAt_4 : decode cX4_errorAt 4 = .ok (.getfield 15, 3) := by decide +kernel
theorem dX4_errorAt_7 : decode cX4_errorAt 7 = .ok (.if_icmp .ge 19, 3) := by decide +kernel
theorem dX4_errorAt_10 : decode cX4_errorAt 10 = .ok (.aload_n 0, 1) := by decide +kernel
theorem dX4_errorAt_11 : decode cX4_errorAt 11 = .ok (.iload_n 1, 1) := by decide +kernel
theorem dX4_errorAt_12 : decode cX4_errorAt 12 = .ok (.invokevirtual 19, 3) := by decide +kernel
theorem dX4_errorAt_15 : decode cX4_errorAt 15 = .ok (.ifCond .ne 5, 3) := by decide +kernel
theorem dX4_errorAt_18 : decode cX4_errorAt 18 = .ok (.iload_n 1, 1) := by decide +kernel
theorem dX4_errorAt_19 : decode cX4_errorAt 19 = .ok (.ireturn, 1) := by decide +kernel
theorem dX4_errorAt_20 : decode cX4_errorAt 20 = .ok (.iinc 1 1, 3) := by decide +kernel
theorem dX4_errorAt_23 : decode cX4_errorAt 23 = .ok (.goto (-21), 3) := by decide +kernel
theorem dX4_errorAt_26 : decode cX4_errorAt 26 = .ok (.aload_n 0, 1) := by decide +kernel
theorem dX4_errorAt_27 : decode cX4_errorAt 27 = .ok (.getfield 15, 3) := by decide +kernel
theorem dX4_errorAt_30 : decode cX4_errorAt 30 = .ok (.iconst 2, 1) := by decide +kernel
theorem dX4_errorAt_31 : decode cX4_errorAt 31 = .ok (.if_icmp .lt 20, 3) := by decide +kernel
theorem dX4_errorAt_34 : decode cX4_errorAt 34 = .ok (.aload_n 0, 1) := by decide +kernel
theorem dX4_errorAt_35 : decode cX4_errorAt 35 = .ok (.getfield 15, 3) := by decide +kernel
theorem dX4_errorAt_38 : decode cX4_errorAt 38 = .ok (.iconst 2, 1) := by decide +kernel
theorem dX4_errorAt_39 : decode cX4_errorAt 39 = .ok (.isub, 1) := by decide +kernel
theorem dX4_errorAt_40 : decode cX4_errorAt 40 = .ok (.bipush 8, 2) := by decide +kernel
theorem dX4_errorAt_42 : decode cX4_errorAt 42 = .ok (.irem, 1) := by decide +kernel
theorem dX4_errorAt_43 : decode cX4_errorAt 43 = .ok (.ifCond .ne 8, 3) := by decide +kernel
theorem dX4_errorAt_46 : decode cX4_errorAt 46 = .ok (.bipush (-9), 2) := by decide +kernel
theorem dX4_errorAt_48 : decode cX4_errorAt 48 = .ok (.goto 7, 3) := by decide +kernel
theorem dX4_errorAt_51 : decode cX4_errorAt 51 = .ok (.aload_n 0, 1) := by decide +kernel
theorem dX4_errorAt_52 : decode cX4_errorAt 52 = .ok (.getfield 15, 3) := by decide +kernel
theorem dX4_errorAt_55 : decode cX4_errorAt 55 = .ok (.ireturn, 1) := by decide +kernel
set_option maxRecDepth 20000 in
theorem ggX4_describe_X4_value : GoodIn wsX4_describe wsX4_value := goodIn_r _ [8, 9, 10, 11, 7, 12, 3, 13, 28, 29] (by decide +kernel) (by decide +kernel)
set_option maxRecDepth 20000 in
theorem gX4_describe_X4_value : GoodIn wsX4_describe (wsV RX4 28 RX4 yX4_value wsX4_value) := goodIn_app (goodIn_of _ (by decide +kernel)) ggX4_describe_X4_value
set_option maxRecDepth 20000 in
theorem ggX4_describe_X0_add : GoodIn wsX4_describe wsX0_add := goodIn_r _ [18, 19, 20, 21, 22, 17, 23, 24, 25, 26, 27] (by decide +kernel) (by decide +kernel)
set_option maxRecDepth 20000 in
theorem gX4_describe_X0_add : GoodIn wsX4_describe (wsV RX4 35 RX0 yX0_add wsX0_add) := goodIn_app (goodIn_of _ (by decide +kernel)) ggX4_describe_X0_add
theorem dX4_describe_0 : decode cX4_describe 0 = .ok (.aload_n 1, 1) := by decide +kernel
theorem dX4_describe_1 : decode cX4_describe 1 = .ok (.iconst 0, 1) := by decide +kernel
theorem dX4_describe_2 : decode cX4_describe 2 = .ok (.putfield 23, 3) := by decide +kernel
theorem dX4_describe_5 : decode cX4_describe 5 = .ok (.aload_n 1, 1) := by decide +kernel
theorem dX4_describe_6 : decode cX4_describe 6 = .ok (.aload_n 0, 1) := by decide +kernel
theorem dX4_describe_7 : decode cX4_describe 7 = .ok (.iconst 1, 1) := by decide +kernel
theorem dX4_describe_8 : decode cX4_describe 8 = .ok (.invokevirtual 28, 3) := by decide +kernel
theorem dX4_describe_11 : decode cX4_describe 11 = .ok (.putfield 32, 3) := by decide +kernel
theorem dX4_describe_14 : decode cX4_describe 14 = .ok (.iconst 2, 1) := by decide +kernel
theorem dX4_describe_15 : decode cX4_describe 15 = .ok (.istore_n 2, 1) := by decide +kernel
theorem dX4_describe_16 : decode cX4_describe 16 = .ok (.iload_n 2, 1) := by decide +kernel
theorem dX4_describe_17 : decode cX4_describe 17 = .ok (.bipush 8, 2) := by decide +kernel
theorem dX4_describe_19 : decode cX4_describe 19 = .ok (.iadd, 1) := by decide +kernel
theorem dX4_describe_20 : decode cX4_describe 20 = .ok (.aload_n 0, 1) := by decide +kernel
theorem dX4_describe_21 : decode cX4_describe 21 = .ok (.getfield 15, 3) := by decide +kernel
theorem dX4_describe_24 : decode cX4_describe 24 = .ok (.if_icmp .gt 70, 3) := by decide +kernel
theorem dX4_describe_27 : decode cX4_describe 27 = .ok (.bipush 10, 2) := by decide +kernel
theorem dX4_describe_29 : decode cX4_describe 29 = .ok (.aload_n 0, 1) := by decide +kernel
theorem dX4_describe_30 : decode cX4_describe 30 = .ok (.iload_n 2, 1) := by decide +kernel
theorem dX4_describe_31 : decode cX4_describe 31 = .ok (.iconst 3, 1) := by decide +kernel
theorem dX4_describe_32 : decode cX4_describe 32 = .ok (.iadd, 1) := by decide +kernel
theorem dX4_describe_33 : decode cX4_describe 33 = .ok (.invokevirtual 28, 3) := by decide +kernel
theorem dX4_describe_36 : decode cX4_describe 36 = .ok (.imul, 1) := by decide +kernel
theorem dX4_describe_37 : decode cX4_describe 37 = .ok (.aload_n 0, 1) := by decide +kernel
theorem dX4_describe_38 : decode cX4_describe 38 = .ok (.iload_n 2, 1) := by decide +kernel
theorem dX4_describe_39 : decode cX4_describe 39 = .ok (.iconst 4, 1) := by decide +kernel
theorem dX4_describe_40 : decode cX4_describe 40 = .ok (.iadd, 1) := by decide +kernel
theorem dX4_describe_41 : decode cX4_describe 41 = .ok (.invokevirtual 28, 3) := by decide +kernel
theorem dX4_describe_44 : decode cX4_describe 44 = .ok (.iadd, 1) := by decide +kernel
theorem dX4_describe_45 : decode cX4_describe 45 = .ok (.istore_n 3, 1) := by decide +kernel
theorem dX4_describe_46 : decode cX4_describe 46 = .ok (.aload_n 1, 1) := by decide +kernel
theorem dX4_describe_47 : decode cX4_describe 47 = .ok (.aload_n 0, 1) := by decide +kernel
theorem dX4_describe_48 : decode cX4_describe 48 = .ok (.iload_n 2, 1) := by decide +kernel
theorem dX4_describe_49 : decode cX4_describe 49 = .ok (.iconst 1, 1) := by decide +kernel
theorem dX4_describe_50 : decode cX4_describe 50 = .ok (.iadd, 1) := by decide +kernel
theorem dX4_describe_51 : decode cX4_describe 51 = .ok (.invokevirtual 28, 3) := by decide +kernel
theorem dX4_describe_54 : decode cX4_describe 54 = .ok (.aload_n 0, 1) := by decide +kernel
theorem dX4_describe_55 : decode cX4_describe 55 = .ok (.iload_n 2, 1) := by decide +kernel
theorem dX4_describe_56 : decode cX4_describe 56 = .ok (.iconst 2, 1) := by decide +kernel
theorem dX4_describe_57 : decode cX4_describe 57 = .ok (.iadd, 1) := by decide +kernel
theorem dX4_describe_58 : decode cX4_describe 58 = .ok (.invokevirtual 28, 3) := by decide +kernel
theorem dX4_describe_61 : decode cX4_describe 61 = .ok (.iload_n 3, 1) := by decide +kernel
theorem dX4_describe_62 : decode cX4_describe 62 = .ok (.aload_n 0, 1) := by decide +kernel
theorem dX4_describe_63 : decode cX4_describe 63 = .ok (.iload_n 2, 1) := by decide +kernel
theorem dX4_describe_64 : decode cX4_describe 64 = .ok (.iconst 5, 1) := by decide +kernel
theorem dX4_describe_65 : decode cX4_describe 65 = .ok (.iadd, 1) := by decide +kernel
theorem dX4_describe_66 : decode cX4_describe 66 = .ok (.invokevirtual 28, 3) := by decide +kernel
theorem dX4_describe_69 : decode cX4_describe 69 = .ok (.aload_n 0, 1) := by decide +kernel
theorem dX4_describe_70 : decode cX4_describe 70 = .ok (.iload_n 2, 1) := by decide +kernel
theorem dX4_describe_71 : decode cX4_describe 71 = .ok (.bipush 6, 2) := by decide +kernel
theorem dX4_describe_73 : decode cX4_describe 73 = .ok (.iadd, 1) := by decide +kernel
theorem dX4_describe_74 : decode cX4_describe 74 = .ok (.invokevirtual 28, 3) := by decide +kernel
theorem dX4_describe_77 : decode cX4_describe 77 = .ok (.aload_n 0, 1) := by decide +kernel
theorem dX4_describe_78 : decode cX4_describe 78 = .ok (.iload_n 2, 1) := by decide +kernel
theorem dX4_describe_79 : decode cX4_describe 79 = .ok (.bipush 7, 2) := by decide +kernel
theorem dX4_describe_81 : decode cX4_describe 81 = .ok (.iadd, 1) := by decide +kernel
theorem dX4_describe_82 : decode cX4_describe 82 = .ok (.invokevirtual 28, 3) := by decide +kernel
theorem dX4_describe_85 : decode cX4_describe 85 = .ok (.invokevirtual 35, 3) := by decide +kernel
theorem dX4_describe_88 : decode cX4_describe 88 = .ok (.iinc 2 8, 3) := by decide +kernel
theorem dX4_describe_91 : decode cX4_describe 91 = .ok (.goto (-75), 3) := by decide +kernel
theorem dX4_describe_94 : decode cX4_describe 94 = .ok (.return_, 1) := by decide +kernel
set_option maxRecDepth 20000 in
theorem ggX4_canStand_X4_value : GoodIn wsX4_canStand wsX4_value := goodIn_r _ [5, 6, 7, 8, 4, 9, 10, 11, 15, 16] (by decide +kernel) (by decide +kernel)
set_option maxRecDepth 20000 in
theorem gX4_canStand_X4_value : GoodIn wsX4_canStand (wsV RX4 28 RX4 yX4_value wsX4_value) := goodIn_app (goodIn_of _ (by decide +kernel)) ggX4_canStand_X4_value
set_option maxRecDepth 20000 in
theorem ggX4_canStand_X4_letterAt : GoodIn wsX4_canStand wsX4_letterAt := goodIn_r _ [9, 10, 11, 15, 16] (by decide +kernel) (by decide +kernel)
set_option maxRecDepth 20000 in
theorem gX4_canStand_X4_letterAt : GoodIn wsX4_canStand (wsV RX4 39 RX4 yX4_letterAt wsX4_letterAt) := goodIn_app (goodIn_of _ (by decide +kernel)) ggX4_canStand_X4_letterAt
set_option maxRecDepth 20000 in
theorem ggX4_canStand_X5_allows : GoodIn wsX4_canStand wsX5_allows := goodIn_r _ [14] (by decide +kernel) (by decide +kernel)
set_option maxRecDepth 20000 in
theorem gX4_canStand_X5_allows_n43 : GoodIn wsX4_canStand (wsX5_allows) := ggX4_canStand_X5_allows
theorem dX4_canStand_0 : decode cX4_canStand 0 = .ok (.aload_n 0, 1) := by decide +kernel
theorem dX4_canStand_1 : decode cX4_canStand 1 = .ok (.iload_n 1, 1) := by decide +kernel
theorem dX4_canStand_2 : decode cX4_canStand 2 = .ok (.invokevirtual 28, 3) := by decide +kernel
theorem dX4_canStand_5 : decode cX4_canStand 5 = .ok (.istore_n 2, 1) := by decide +kernel
theorem dX4_canStand_6 : decode cX4_canStand 6 = .ok (.iload_n 1, 1) := by decide +kernel
theorem dX4_canStand_7 : decode cX4_canStand 7 = .ok (.iconst 2, 1) := by decide +kernel
theorem dX4_canStand_8 : decode cX4_canStand 8 = .ok (.if_icmp .ge 42, 3) := by decide +kernel
theorem dX4_canStand_11 : decode cX4_canStand 11 = .ok (.iload_n 1, 1) := by decide +kernel
theorem dX4_canStand_12 : decode cX4_canStand 12 = .ok (.ifCond .ne 21, 3) := by decide +kernel
theorem dX4_canStand_15 : decode cX4_canStand 15 = .ok (.aload_n 0, 1) := by decide +kernel
theorem dX4_canStand_16 : decode cX4_canStand 16 = .ok (.iconst 0, 1) := by decide +kernel
theorem dX4_canStand_17 : decode cX4_canStand 17 = .ok (.invokevirtual 39, 3) := by decide +kernel
theorem dX4_canStand_20 : decode cX4_canStand 20 = .ok (.bipush 67, 2) := by decide +kernel
theorem dX4_canStand_22 : decode cX4_canStand 22 = .ok (.if_icmp .ne 7, 3) := by decide +kernel
theorem dX4_canStand_25 : decode cX4_canStand 25 = .ok (.iconst 1, 1) := by decide +kernel
theorem dX4_canStand_26 : decode cX4_canStand 26 = .ok (.goto 23, 3) := by decide +kernel
theorem dX4_canStand_29 : decode cX4_canStand 29 = .ok (.iconst 0, 1) := by decide +kernel
theorem dX4_canStand_30 : decode cX4_canStand 30 = .ok (.goto 19, 3) := by decide +kernel
theorem dX4_canStand_33 : decode cX4_canStand 33 = .ok (.iload_n 2, 1) := by decide +kernel
theorem dX4_canStand_34 : decode cX4_canStand 34 = .ok (.iconst 1, 1) := by decide +kernel
theorem dX4_canStand_35 : decode cX4_canStand 35 = .ok (.if_icmp .lt 13, 3) := by decide +kernel
theorem dX4_canStand_38 : decode cX4_canStand 38 = .ok (.iload_n 2, 1) := by decide +kernel
theorem dX4_canStand_39 : decode cX4_canStand 39 = .ok (.bipush 6, 2) := by decide +kernel
theorem dX4_canStand_41 : decode cX4_canStand 41 = .ok (.if_icmp .gt 7, 3) := by decide +kernel
theorem dX4_canStand_44 : decode cX4_canStand 44 = .ok (.iconst 1, 1) := by decide +kernel
theorem dX4_canStand_45 : decode cX4_canStand 45 = .ok (.goto 4, 3) := by decide +kernel
theorem dX4_canStand_48 : decode cX4_canStand 48 = .ok (.iconst 0, 1) := by decide +kernel
theorem dX4_canStand_49 : decode cX4_canStand 49 = .ok (.ireturn, 1) := by decide +kernel
theorem dX4_canStand_50 : decode cX4_canStand 50 = .ok (.iload_n 1, 1) := by decide +kernel
theorem dX4_canStand_51 : decode cX4_canStand 51 = .ok (.iconst 2, 1) := by decide +kernel
theorem dX4_canStand_52 : decode cX4_canStand 52 = .ok (.isub, 1) := by decide +kernel
theorem dX4_canStand_53 : decode cX4_canStand 53 = .ok (.bipush 8, 2) := by decide +kernel
theorem dX4_canStand_55 : decode cX4_canStand 55 = .ok (.irem, 1) := by decide +kernel
theorem dX4_canStand_56 : decode cX4_canStand 56 = .ok (.tableswitch 187 0 6 #[44, 75, 94, 124, 140, 175, 181], 44) := by decide +kernel
theorem dX4_canStand_100 : decode cX4_canStand 100 = .ok (.aload_n 0, 1) := by decide +kernel
theorem dX4_canStand_101 : decode cX4_canStand 101 = .ok (.iload_n 1, 1) := by decide +kernel
theorem dX4_canStand_102 : decode cX4_canStand 102 = .ok (.invokevirtual 39, 3) := by decide +kernel
theorem dX4_canStand_105 : decode cX4_canStand 105 = .ok (.bipush 108, 2) := by decide +kernel
theorem dX4_canStand_107 : decode cX4_canStand 107 = .ok (.if_icmp .ne 22, 3) := by decide +kernel
theorem dX4_canStand_110 : decode cX4_canStand 110 = .ok (.aload_n 0, 1) := by decide +kernel
theorem dX4_canStand_111 : decode cX4_canStand 111 = .ok (.iconst 1, 1) := by decide +kernel
theorem dX4_canStand_112 : decode cX4_canStand 112 = .ok (.invokevirtual 28, 3) := by decide +kernel
theorem dX4_canStand_115 : decode cX4_canStand 115 = .ok (.iconst 1, 1) := by decide +kernel
theorem dX4_canStand_116 : decode cX4_canStand 116 = .ok (.if_icmp .le 13, 3) := by decide +kernel
theorem dX4_canStand_119 : decode cX4_canStand 119 = .ok (.iload_n 1, 1) := by decide +kernel
theorem dX4_canStand_120 : decode cX4_canStand 120 = .ok (.bipush 66, 2) := by decide +kernel
theorem dX4_canStand_122 : decode cX4_canStand 122 = .ok (.if_icmp .ge 7, 3) := by decide +kernel
theorem dX4_canStand_125 : decode cX4_canStand 125 = .ok (.iconst 1, 1) := by decide +kernel
theorem dX4_canStand_126 : decode cX4_canStand 126 = .ok (.goto 4, 3) := by decide +kernel
theorem dX4_canStand_129 : decode cX4_canStand 129 = .ok (.iconst 0, 1) := by decide +kernel
theorem dX4_canStand_130 : decode cX4_canStand 130 = .ok (.ireturn, 1) := by decide +kernel
theorem dX4_canStand_131 : decode cX4_canStand 131 = .ok (.iload_n 2, 1) := by decide +kernel
theorem dX4_canStand_132 : decode cX4_canStand 132 = .ok (.ifCond .lt 16, 3) := by decide +kernel
theorem dX4_canStand_135 : decode cX4_canStand 135 = .ok (.iload_n 2, 1) := by decide +kernel
theorem dX4_canStand_136 : decode cX4_canStand 136 = .ok (.aload_n 0, 1) := by decide +kernel
theorem dX4_canStand_137 : decode cX4_canStand 137 = .ok (.iconst 1, 1) := by decide +kernel
theorem dX4_canStand_138 : decode cX4_canStand 138 = .ok (.invokevirtual 28, 3) := by decide +kernel
theorem dX4_canStand_141 : decode cX4_canStand 141 = .ok (.if_icmp .ge 7, 3) := by decide +kernel
theorem dX4_canStand_144 : decode cX4_canStand 144 = .ok (.iconst 1, 1) := by decide +kernel
theorem dX4_canStand_145 : decode cX4_canStand 145 = .ok (.goto 4, 3) := by decide +kernel
theorem dX4_canStand_148 : decode cX4_canStand 148 = .ok (.iconst 0, 1) := by decide +kernel
theorem dX4_canStand_149 : decode cX4_canStand 149 = .ok (.ireturn, 1) := by decide +kernel
theorem dX4_canStand_150 : decode cX4_canStand 150 = .ok (.iload_n 2, 1) := by decide +kernel
theorem dX4_canStand_151 : decode cX4_canStand 151 = .ok (.ifCond .lt 27, 3) := by decide +kernel
theorem dX4_canStand_154 : decode cX4_canStand 154 = .ok (.iload_n 2, 1) := by decide +kernel
theorem dX4_canStand_155 : decode cX4_canStand 155 = .ok (.aload_n 0, 1) := by decide +kernel
theorem dX4_canStand_156 : decode cX4_canStand 156 = .ok (.iconst 1, 1) := by decide +kernel
theorem dX4_canStand_157 : decode cX4_canStand 157 = .ok (.invokevirtual 28, 3) := by decide +kernel
theorem dX4_canStand_160 : decode cX4_canStand 160 = .ok (.if_icmp .ge 18, 3) := by decide +kernel
theorem dX4_canStand_163 : decode cX4_canStand 163 = .ok (.iload_n 2, 1) := by decide +kernel
theorem dX4_canStand_164 : decode cX4_canStand 164 = .ok (.aload_n 0, 1) := by decide +kernel
theorem dX4_canStand_165 : decode cX4_canStand 165 = .ok (.iload_n 1, 1) := by decide +kernel
theorem dX4_canStand_166 : decode cX4_canStand 166 = .ok (.iconst 1, 1) := by decide +kernel
theorem dX4_canStand_167 : decode cX4_canStand 167 = .ok (.isub, 1) := by decide +kernel
theorem dX4_canStand_168 : decode cX4_canStand 168 = .ok (.invokevirtual 28, 3) := by decide +kernel
theorem dX4_canStand_171 : decode cX4_canStand 171 = .ok (.if_icmp .eq 7, 3) := by decide +kernel
theorem dX4_canStand_174 : decode cX4_canStand 174 = .ok (.iconst 1, 1) := by decide +kernel
theorem dX4_canStand_175 : decode cX4_canStand 175 = .ok (.goto 4, 3) := by decide +kernel
theorem dX4_canStand_178 : decode cX4_canStand 178 = .ok (.iconst 0, 1) := by decide +kernel
theorem dX4_canStand_179 : decode cX4_canStand 179 = .ok (.ireturn, 1) := by decide +kernel
theorem dX4_canStand_180 : decode cX4_canStand 180 = .ok (.iload_n 2, 1) := by decide +kernel
theorem dX4_canStand_181 : decode cX4_canStand 181 = .ok (.ifCond .lt 13, 3) := by decide +kernel
theorem dX4_canStand_184 : decode cX4_canStand 184 = .ok (.iload_n 2, 1) := by decide +kernel
theorem dX4_canStand_185 : decode cX4_canStand 185 = .ok (.bipush 9, 2) := by decide +kernel
theorem dX4_canStand_187 : decode cX4_canStand 187 = .ok (.if_icmp .gt 7, 3) := by decide +kernel
theorem dX4_canStand_190 : decode cX4_canStand 190 = .ok (.iconst 1, 1) := by decide +kernel
theorem dX4_canStand_191 : decode cX4_canStand 191 = .ok (.goto 4, 3) := by decide +kernel
theorem dX4_canStand_194 : decode cX4_canStand 194 = .ok (.iconst 0, 1) := by decide +kernel
theorem dX4_canStand_195 : decode cX4_canStand 195 = .ok (.ireturn, 1) := by decide +kernel
theorem dX4_canStand_196 : decode cX4_canStand 196 = .ok (.iload_n 2, 1) := by decide +kernel
theorem dX4_canStand_197 : decode cX4_canStand 197 = .ok (.ifCond .lt 32, 3) := by decide +kernel
theorem dX4_canStand_200 : decode cX4_canStand 200 = .ok (.iload_n 2, 1) := by decide +kernel
theorem dX4_canStand_201 : decode cX4_canStand 201 = .ok (.bipush 9, 2) := by decide +kernel
theorem dX4_canStand_203 : decode cX4_canStand 203 = .ok (.if_icmp .gt 26, 3) := by decide +kernel
theorem dX4_canStand_206 : decode cX4_canStand 206 = .ok (.iconst 0, 1) := by decide +kernel
theorem dX4_canStand_207 : decode cX4_canStand 207 = .ok (.bipush 10, 2) := by decide +kernel
theorem dX4_canStand_209 : decode cX4_canStand 209 = .ok (.aload_n 0, 1) := by decide +kernel
theorem dX4_canStand_210 : decode cX4_canStand 210 = .ok (.iload_n 1, 1) := by decide +kernel
theorem dX4_canStand_211 : decode cX4_canStand 211 = .ok (.iconst 1, 1) := by decide +kernel
theorem dX4_canStand_212 : decode cX4_canStand 212 = .ok (.isub, 1) := by decide +kernel
theorem dX4_canStand_213 : decode cX4_canStand 213 = .ok (.invokevirtual 28, 3) := by decide +kernel
theorem dX4_canStand_216 : decode cX4_canStand 216 = .ok (.imul, 1) := by decide +kernel
theorem dX4_canStand_217 : decode cX4_canStand 217 = .ok (.iload_n 2, 1) := by decide +kernel
theorem dX4_canStand_218 : decode cX4_canStand 218 = .ok (.iadd, 1) := by decide +kernel
theorem dX4_canStand_219 : decode cX4_canStand 219 = .ok (.invokestatic 43, 3) := by decide +kernel
theorem dX4_canStand_222 : decode cX4_canStand 222 = .ok (.ifCond .eq 7, 3) := by decide +kernel
theorem dX4_canStand_225 : decode cX4_canStand 225 = .ok (.iconst 1, 1) := by decide +kernel
theorem dX4_canStand_226 : decode cX4_canStand 226 = .ok (.goto 4, 3) := by decide +kernel
theorem dX4_canStand_229 : decode cX4_canStand 229 = .ok (.iconst 0, 1) := by decide +kernel
theorem dX4_canStand_230 : decode cX4_canStand 230 = .ok (.ireturn, 1) := by decide +kernel
theorem dX4_canStand_231 : decode cX4_canStand 231 = .ok (.iconst 1, 1) := by decide +kernel
theorem dX4_canStand_232 : decode cX4_canStand 232 = .ok (.iload_n 2, 1) := by decide +kernel
theorem dX4_canStand_233 : decode cX4_canStand 233 = .ok (.invokestatic 43, 3) := by decide +kernel
theorem dX4_canStand_236 : decode cX4_canStand 236 = .ok (.ireturn, 1) := by decide +kernel
theorem dX4_canStand_237 : decode cX4_canStand 237 = .ok (.iconst 2, 1) := by decide +kernel
theorem dX4_canStand_238 : decode cX4_canStand 238 = .ok (.iload_n 2, 1) := by decide +kernel
theorem dX4_canStand_239 : decode cX4_canStand 239 = .ok (.invokestatic 43, 3) := by decide +kernel
theorem dX4_canStand_242 : decode cX4_canStand 242 = .ok (.ireturn, 1) := by decide +kernel
theorem dX4_canStand_243 : decode cX4_canStand 243 = .ok (.iconst 3, 1) := by decide +kernel
theorem dX4_canStand_244 : decode cX4_canStand 244 = .ok (.iload_n 2, 1) := by decide +kernel
theorem dX4_canStand_245 : decode cX4_canStand 245 = .ok (.invokestatic 43, 3) := by decide +kernel
theorem dX4_canStand_248 : decode cX4_canStand 248 = .ok (.ireturn, 1) := by decide +kernel
theorem dX4_letterAt_0 : decode cX4_letterAt 0 = .ok (.iload_n 1, 1) := by decide +kernel
theorem dX4_letterAt_1 : decode cX4_letterAt 1 = .ok (.ifCond .lt 29, 3) := by decide +kernel
theorem dX4_letterAt_4 : decode cX4_letterAt 4 = .ok (.iload_n 1, 1) := by decide +kernel
theorem dX4_letterAt_5 : decode cX4_letterAt 5 = .ok (.aload_n 0, 1) := by decide +kernel
theorem dX4_letterAt_6 : decode cX4_letterAt 6 = .ok (.getfield 15, 3) := by decide +kernel
theorem dX4_letterAt_9 : decode cX4_letterAt 9 = .ok (.if_icmp .ge 21, 3) := by decide +kernel
theorem dX4_letterAt_12 : decode cX4_letterAt 12 = .ok (.iload_n 1, 1) := by decide +kernel
theorem dX4_letterAt_13 : decode cX4_letterAt 13 = .ok (.aload_n 0, 1) := by decide +kernel
theorem dX4_letterAt_14 : decode cX4_letterAt 14 = .ok (.getfield 9, 3) := by decide +kernel
theorem dX4_letterAt_17 : decode cX4_letterAt 17 = .ok (.arraylength, 1) := by decide +kernel
theorem dX4_letterAt_18 : decode cX4_letterAt 18 = .ok (.if_icmp .ge 12, 3) := by decide +kernel
theorem dX4_letterAt_21 : decode cX4_letterAt 21 = .ok (.aload_n 0, 1) := by decide +kernel
theorem dX4_letterAt_22 : decode cX4_letterAt 22 = .ok (.getfield 9, 3) := by decide +kernel
theorem dX4_letterAt_25 : decode cX4_letterAt 25 = .ok (.iload_n 1, 1) := by decide +kernel
theorem dX4_letterAt_26 : decode cX4_letterAt 26 = .ok (.caload, 1) := by decide +kernel
theorem dX4_letterAt_27 : decode cX4_letterAt 27 = .ok (.goto 4, 3) := by decide +kernel
theorem dX4_letterAt_30 : decode cX4_letterAt 30 = .ok (.iconst 0, 1) := by decide +kernel
theorem dX4_letterAt_31 : decode cX4_letterAt 31 = .ok (.ireturn, 1) := by decide +kernel
set_option maxRecDepth 20000 in
theorem ggX4_value_X4_letterAt : GoodIn wsX4_value wsX4_letterAt := goodIn_r _ [5, 6, 7, 8, 9] (by decide +kernel) (by decide +kernel)
set_option maxRecDepth 20000 in
theorem gX4_value_X4_letterAt : GoodIn wsX4_value (wsV RX4 39 RX4 yX4_letterAt wsX4_letterAt) := goodIn_app (goodIn_of _ (by decide +kernel)) ggX4_value_X4_letterAt
theorem dX4_value_0 : decode cX4_value 0 = .ok (.aload_n 0, 1) := by decide +kernel
theorem dX4_value_1 : decode cX4_value 1 = .ok (.iload_n 1, 1) := by decide +kernel
theorem dX4_value_2 : decode cX4_value 2 = .ok (.invokevirtual 39, 3) := by decide +kernel
theorem dX4_value_5 : decode cX4_value 5 = .ok (.istore_n 2, 1) := by decide +kernel
theorem dX4_value_6 : decode cX4_value 6 = .ok (.iload_n 2, 1) := by decide +kernel
theorem dX4_value_7 : decode cX4_value 7 = .ok (.bipush 48, 2) := by decide +kernel
theorem dX4_value_9 : decode cX4_value 9 = .ok (.if_icmp .lt 14, 3) := by decide +kernel
theorem dX4_value_12 : decode cX4_value 12 = .ok (.iload_n 2, 1) := by decide +kernel
theorem dX4_value_13 : decode cX4_value 13 = .ok (.bipush 57, 2) := by decide +kernel
theorem dX4_value_15 : decode cX4_value 15 = .ok (.if_icmp .gt 8, 3) := by decide +kernel
theorem dX4_value_18 : decode cX4_value 18 = .ok (.iload_n 2, 1) := by decide +kernel
theorem dX4_value_19 : decode cX4_value 19 = .ok (.bipush 48, 2) := by decide +kernel
theorem dX4_value_21 : decode cX4_value 21 = .ok (.isub, 1) := by decide +kernel
theorem dX4_value_22 : decode cX4_value 22 = .ok (.ireturn, 1) := by decide +kernel
theorem dX4_value_23 : decode cX4_value 23 = .ok (.iload_n 2, 1) := by decide +kernel
theorem dX4_value_24 : decode cX4_value 24 = .ok (.bipush 97, 2) := by decide +kernel
theorem dX4_value_26 : decode cX4_value 26 = .ok (.if_icmp .ne 8, 3) := by decide +kernel
theorem dX4_value_29 : decode cX4_value 29 = .ok (.bipush 10, 2) := by decide +kernel
theorem dX4_value_31 : decode cX4_value 31 = .ok (.goto 15, 3) := by decide +kernel
theorem dX4_value_34 : decode cX4_value 34 = .ok (.iload_n 2, 1) := by decide +kernel
theorem dX4_value_35 : decode cX4_value 35 = .ok (.bipush 98, 2) := by decide +kernel
theorem dX4_value_37 : decode cX4_value 37 = .ok (.if_icmp .ne 8, 3) := by decide +kernel
theorem dX4_value_40 : decode cX4_value 40 = .ok (.bipush 11, 2) := by decide +kernel
theorem dX4_value_42 : decode cX4_value 42 = .ok (.goto 4, 3) := by decide +kernel
theorem dX4_value_45 : decode cX4_value 45 = .ok (.iconst (-1), 1) := by decide +kernel
theorem dX4_value_46 : decode cX4_value 46 = .ok (.ireturn, 1) := by decide +kernel
set_option maxRecDepth 20000 in
theorem ggX5_init_X4_init : GoodIn wsX5_init wsX4_init := goodIn_r _ [27, 28, 2, 3, 29, 30, 53, 54] (by decide +kernel) (by decide +kernel)
set_option maxRecDepth 20000 in
theorem gX5_init_X4_init_n9 : GoodIn wsX5_init (wsX4_init) := ggX5_init_X4_init
set_option maxRecDepth 20000 in
theorem ggX5_init_X0_init : GoodIn wsX5_init wsX0_init := goodIn_r _ [32, 33, 2, 3, 34, 35, 36, 64, 65, 66] (by decide +kernel) (by decide +kernel)
set_option maxRecDepth 20000 in
theorem gX5_init_X0_init_n18 : GoodIn wsX5_init (wsX0_init) := ggX5_init_X0_init
set_option maxRecDepth 20000 in
theorem ggX5_init_X1_init : GoodIn wsX5_init wsX1_init := goodIn_r _ [38, 39, 2, 3, 40, 41, 67, 68, 69] (by decide +kernel) (by decide +kernel)
set_option maxRecDepth 20000 in
theorem gX5_init_X1_init_n25 : GoodIn wsX5_init (wsX1_init) := ggX5_init_X1_init
set_option maxRecDepth 20000 in
theorem ggX5_init_X2_init : GoodIn wsX5_init wsX2_init := goodIn_r _ [43, 44, 2, 3, 34, 45, 70, 71] (by decide +kernel) (by decide +kernel)
set_option maxRecDepth 20000 in
theorem gX5_init_X2_init_n36 : GoodIn wsX5_init (wsX2_init) := ggX5_init_X2_init
set_option maxRecDepth 20000 in
theorem ggX5_init_X3_init : GoodIn wsX5_init wsX3_init := goodIn_r _ [47, 48, 2, 3, 34, 49, 50, 51, 52, 72, 73, 74, 75] (by decide +kernel) (by decide +kernel)
set_option maxRecDepth 20000 in
theorem gX5_init_X3_init_n43 : GoodIn wsX5_init (wsX3_init) := ggX5_init_X3_init
