theorem dX5_init_0 : decode cX5_init 0 = .ok (.aload_n 0, 1) := by decide +kernel
theorem dX5_init_1 : decode cX5_init 1 = .ok (.invokespecial 1, 3) := by decide +kernel
theorem dX5_init_4 : decode cX5_init 4 = .ok (.aload_n 0, 1) := by decide +kernel
theorem dX5_init_5 : decode cX5_init 5 = .ok (.new 7, 3) := by decide +kernel
theorem dX5_init_8 : decode cX5_init 8 = .ok (.dup, 1) := by decide +kernel
theorem dX5_init_9 : decode cX5_init 9 = .ok (.invokespecial 9, 3) := by decide +kernel
theorem dX5_init_12 : decode cX5_init 12 = .ok (.putfield 10, 3) := by decide +kernel
theorem dX5_init_15 : decode cX5_init 15 = .ok (.aload_n 0, 1) := by decide +kernel
theorem dX5_init_16 : decode cX5_init 16 = .ok (.new 16, 3) := by decide +kernel
theorem dX5_init_19 : decode cX5_init 19 = .ok (.dup, 1) := by decide +kernel
theorem dX5_init_20 : decode cX5_init 20 = .ok (.invokespecial 18, 3) := by decide +kernel
theorem dX5_init_23 : decode cX5_init 23 = .ok (.putfield 19, 3) := by decide +kernel
theorem dX5_init_26 : decode cX5_init 26 = .ok (.aload_n 0, 1) := by decide +kernel
theorem dX5_init_27 : decode cX5_init 27 = .ok (.new 23, 3) := by decide +kernel
theorem dX5_init_30 : decode cX5_init 30 = .ok (.dup, 1) := by decide +kernel
theorem dX5_init_31 : decode cX5_init 31 = .ok (.invokespecial 25, 3) := by decide +kernel
theorem dX5_init_34 : decode cX5_init 34 = .ok (.putfield 26, 3) := by decide +kernel
theorem dX5_init_37 : decode cX5_init 37 = .ok (.aload_n 0, 1) := by decide +kernel
theorem dX5_init_38 : decode cX5_init 38 = .ok (.iconst 2, 1) := by decide +kernel
theorem dX5_init_39 : decode cX5_init 39 = .ok (.anewarray 16, 3) := by decide +kernel
theorem dX5_init_42 : decode cX5_init 42 = .ok (.putfield 30, 3) := by decide +kernel
theorem dX5_init_45 : decode cX5_init 45 = .ok (.aload_n 0, 1) := by decide +kernel
theorem dX5_init_46 : decode cX5_init 46 = .ok (.new 34, 3) := by decide +kernel
theorem dX5_init_49 : decode cX5_init 49 = .ok (.dup, 1) := by decide +kernel
theorem dX5_init_50 : decode cX5_init 50 = .ok (.invokespecial 36, 3) := by decide +kernel
theorem dX5_init_53 : decode cX5_init 53 = .ok (.putfield 37, 3) := by decide +kernel
theorem dX5_init_56 : decode cX5_init 56 = .ok (.aload_n 0, 1) := by decide +kernel
theorem dX5_init_57 : decode cX5_init 57 = .ok (.new 41, 3) := by decide +kernel
theorem dX5_init_60 : decode cX5_init 60 = .ok (.dup, 1) := by decide +kernel
theorem dX5_init_61 : decode cX5_init 61 = .ok (.invokespecial 43, 3) := by decide +kernel
theorem dX5_init_64 : decode cX5_init 64 = .ok (.putfield 44, 3) := by decide +kernel
theorem dX5_init_67 : decode cX5_init 67 = .ok (.aload_n 0, 1) := by decide +kernel
theorem dX5_init_68 : decode cX5_init 68 = .ok (.new 16, 3) := by decide +kernel
theorem dX5_init_71 : decode cX5_init 71 = .ok (.dup, 1) := by decide +kernel
theorem dX5_init_72 : decode cX5_init 72 = .ok (.invokespecial 18, 3) := by decide +kernel
theorem dX5_init_75 : decode cX5_init 75 = .ok (.putfield 48, 3) := by decide +kernel
theorem dX5_init_78 : decode cX5_init 78 = .ok (.return_, 1) := by decide +kernel
set_option maxRecDepth 20000 in
theorem ggX5_write_X4_append : GoodIn wsX5_write wsX4_append := goodIn_r _ [7, 8, 9, 19, 20] (by decide +kernel) (by decide +kernel)
set_option maxRecDepth 20000 in
theorem gX5_write_X4_append : GoodIn wsX5_write (wsV RX5 51 RX4 yX4_append wsX4_append) := goodIn_app (goodIn_of _ (by decide +kernel)) ggX5_write_X4_append
theorem dX5_write_0 : decode cX5_write 0 = .ok (.iload_n 1, 1) := by decide +kernel
theorem dX5_write_1 : decode cX5_write 1 = .ok (.ifCond .lt 10, 3) := by decide +kernel
theorem dX5_write_4 : decode cX5_write 4 = .ok (.iload_n 1, 1) := by decide +kernel
theorem dX5_write_5 : decode cX5_write 5 = .ok (.sipush 255, 3) := by decide +kernel
theorem dX5_write_8 : decode cX5_write 8 = .ok (.if_icmp .le 6, 3) := by decide +kernel
theorem dX5_write_11 : decode cX5_write 11 = .ok (.bipush (-2), 2) := by decide +kernel
theorem dX5_write_13 : decode cX5_write 13 = .ok (.ireturn, 1) := by decide +kernel
theorem dX5_write_14 : decode cX5_write 14 = .ok (.aload_n 0, 1) := by decide +kernel
theorem dX5_write_15 : decode cX5_write 15 = .ok (.getfield 10, 3) := by decide +kernel
theorem dX5_write_18 : decode cX5_write 18 = .ok (.iload_n 1, 1) := by decide +kernel
theorem dX5_write_19 : decode cX5_write 19 = .ok (.i2c, 1) := by decide +kernel
theorem dX5_write_20 : decode cX5_write 20 = .ok (.invokevirtual 51, 3) := by decide +kernel
theorem dX5_write_23 : decode cX5_write 23 = .ok (.ifCond .eq 13, 3) := by decide +kernel
theorem dX5_write_26 : decode cX5_write 26 = .ok (.aload_n 0, 1) := by decide +kernel
theorem dX5_write_27 : decode cX5_write 27 = .ok (.getfield 10, 3) := by decide +kernel
theorem dX5_write_30 : decode cX5_write 30 = .ok (.getfield 55, 3) := by decide +kernel
theorem dX5_write_33 : decode cX5_write 33 = .ok (.goto 5, 3) := by decide +kernel
theorem dX5_write_36 : decode cX5_write 36 = .ok (.bipush (-4), 2) := by decide +kernel
theorem dX5_write_38 : decode cX5_write 38 = .ok (.ireturn, 1) := by decide +kernel
theorem dX5_wipe_0 : decode cX5_wipe 0 = .ok (.aload_n 0, 1) := by decide +kernel
theorem dX5_wipe_1 : decode cX5_wipe 1 = .ok (.getfield 10, 3) := by decide +kernel
theorem dX5_wipe_4 : decode cX5_wipe 4 = .ok (.getfield 55, 3) := by decide +kernel
theorem dX5_wipe_7 : decode cX5_wipe 7 = .ok (.istore_n 1, 1) := by decide +kernel
theorem dX5_wipe_8 : decode cX5_wipe 8 = .ok (.aload_n 0, 1) := by decide +kernel
theorem dX5_wipe_9 : decode cX5_wipe 9 = .ok (.getfield 10, 3) := by decide +kernel
theorem dX5_wipe_12 : decode cX5_wipe 12 = .ok (.iconst 0, 1) := by decide +kernel
theorem dX5_wipe_13 : decode cX5_wipe 13 = .ok (.putfield 55, 3) := by decide +kernel
theorem dX5_wipe_16 : decode cX5_wipe 16 = .ok (.iload_n 1, 1) := by decide +kernel
theorem dX5_wipe_17 : decode cX5_wipe 17 = .ok (.ireturn, 1) := by decide +kernel
set_option maxRecDepth 20000 in
theorem ggX5_fault_X4_errorAt : GoodIn wsX5_fault wsX4_errorAt := goodIn_r _ [6, 7, 8, 9, 10, 5, 11, 12, 13, 14, 15, 16, 17, 18, 19, 20, 21, 22, 23, 33, 34] (by decide +kernel) (by decide +kernel)
set_option maxRecDepth 20000 in
theorem gX5_fault_X4_errorAt : GoodIn wsX5_fault (wsV RX5 59 RX4 yX4_errorAt wsX4_errorAt) := goodIn_app (goodIn_of _ (by decide +kernel)) ggX5_fault_X4_errorAt
theorem dX5_fault_0 : decode cX5_fault 0 = .ok (.aload_n 0, 1) := by decide +kernel
theorem dX5_fault_1 : decode cX5_fault 1 = .ok (.getfield 10, 3) := by decide +kernel
theorem dX5_fault_4 : decode cX5_fault 4 = .ok (.invokevirtual 59, 3) := by decide +kernel
theorem dX5_fault_7 : decode cX5_fault 7 = .ok (.ireturn, 1) := by decide +kernel
set_option maxRecDepth 20000 in
theorem ggX5_cave_X4_errorAt : GoodIn wsX5_cave wsX4_errorAt := goodIn_r _ [10, 11, 12, 13, 14, 9, 15, 16, 17, 18, 19, 20, 21, 22, 23, 24, 25, 26, 27, 63, 64] (by decide +kernel) (by decide +kernel)
set_option maxRecDepth 20000 in
theorem gX5_cave_X4_errorAt : GoodIn wsX5_cave (wsV RX5 59 RX4 yX4_errorAt wsX4_errorAt) := goodIn_app (goodIn_of _ (by decide +kernel)) ggX5_cave_X4_errorAt
set_option maxRecDepth 20000 in
theorem ggX5_cave_X4_describe : GoodIn wsX5_cave wsX4_describe := goodIn_r _ [31, 32, 33, 11, 16, 17, 18, 9, 19, 20, 21, 22, 23, 24, 34, 35, 36, 37, 38, 39, 40, 41, 42, 43, 44, 60, 61, 62, 63, 64] (by decide +kernel) (by decide +kernel)
set_option maxRecDepth 20000 in
theorem gX5_cave_X4_describe : GoodIn wsX5_cave (wsV RX5 63 RX4 yX4_describe wsX4_describe) := goodIn_app (goodIn_of _ (by decide +kernel)) ggX5_cave_X4_describe
set_option maxRecDepth 20000 in
theorem ggX5_cave_X1_forget : GoodIn wsX5_cave wsX1_forget := goodIn_r _ [49, 50, 65, 66, 67] (by decide +kernel) (by decide +kernel)
set_option maxRecDepth 20000 in
theorem gX5_cave_X1_forget : GoodIn wsX5_cave (wsV RX5 67 RX1 yX1_forget wsX1_forget) := goodIn_app (goodIn_of _ (by decide +kernel)) ggX5_cave_X1_forget
theorem dX5_cave_0 : decode cX5_cave 0 = .ok (.aload_n 0, 1) := by decide +kernel
theorem dX5_cave_1 : decode cX5_cave 1 = .ok (.getfield 10, 3) := by decide +kernel
theorem dX5_cave_4 : decode cX5_cave 4 = .ok (.invokevirtual 59, 3) := by decide +kernel
theorem dX5_cave_7 : decode cX5_cave 7 = .ok (.bipush (-9), 2) := by decide +kernel
theorem dX5_cave_9 : decode cX5_cave 9 = .ok (.if_icmp .eq 6, 3) := by decide +kernel
theorem dX5_cave_12 : decode cX5_cave 12 = .ok (.bipush (-3), 2) := by decide +kernel
theorem dX5_cave_14 : decode cX5_cave 14 = .ok (.ireturn, 1) := by decide +kernel
theorem dX5_cave_15 : decode cX5_cave 15 = .ok (.aload_n 0, 1) := by decide +kernel
theorem dX5_cave_16 : decode cX5_cave 16 = .ok (.getfield 10, 3) := by decide +kernel
theorem dX5_cave_19 : decode cX5_cave 19 = .ok (.aload_n 0, 1) := by decide +kernel
theorem dX5_cave_20 : decode cX5_cave 20 = .ok (.getfield 19, 3) := by decide +kernel
theorem dX5_cave_23 : decode cX5_cave 23 = .ok (.invokevirtual 63, 3) := by decide +kernel
theorem dX5_cave_26 : decode cX5_cave 26 = .ok (.aload_n 0, 1) := by decide +kernel
theorem dX5_cave_27 : decode cX5_cave 27 = .ok (.getfield 26, 3) := by decide +kernel
theorem dX5_cave_30 : decode cX5_cave 30 = .ok (.invokevirtual 67, 3) := by decide +kernel
theorem dX5_cave_33 : decode cX5_cave 33 = .ok (.aload_n 0, 1) := by decide +kernel
theorem dX5_cave_34 : decode cX5_cave 34 = .ok (.iconst 0, 1) := by decide +kernel
theorem dX5_cave_35 : decode cX5_cave 35 = .ok (.putfield 70, 3) := by decide +kernel
theorem dX5_cave_38 : decode cX5_cave 38 = .ok (.aload_n 0, 1) := by decide +kernel
theorem dX5_cave_39 : decode cX5_cave 39 = .ok (.getfield 19, 3) := by decide +kernel
theorem dX5_cave_42 : decode cX5_cave 42 = .ok (.getfield 73, 3) := by decide +kernel
theorem dX5_cave_45 : decode cX5_cave 45 = .ok (.ireturn, 1) := by decide +kernel
set_option maxRecDepth 20000 in
theorem ggX5_leg_X0_has : GoodIn wsX5_leg wsX0_has := goodIn_r _ [6, 7, 41, 42, 43] (by decide +kernel) (by decide +kernel)
set_option maxRecDepth 20000 in
theorem gX5_leg_X0_has : GoodIn wsX5_leg (wsV RX5 76 RX0 yX0_has wsX0_has) := goodIn_app (goodIn_of _ (by decide +kernel)) ggX5_leg_X0_has
set_option maxRecDepth 20000 in
theorem ggX5_leg_X0_get : GoodIn wsX5_leg wsX0_get := goodIn_r _ [11, 12, 41, 42, 43] (by decide +kernel) (by decide +kernel)
set_option maxRecDepth 20000 in
theorem gX5_leg_X0_get : GoodIn wsX5_leg (wsV RX5 80 RX0 yX0_get wsX0_get) := goodIn_app (goodIn_of _ (by decide +kernel)) ggX5_leg_X0_get
set_option maxRecDepth 20000 in
theorem ggX5_leg_X0_vector : GoodIn wsX5_leg wsX0_vector := goodIn_r _ [16, 17, 9, 10, 5, 11, 12, 18, 19, 20, 21, 22, 23, 24, 25, 26, 27, 28, 29, 30, 31, 41, 42, 43] (by decide +kernel) (by decide +kernel)
set_option maxRecDepth 20000 in
theorem gX5_leg_X0_vector : GoodIn wsX5_leg (wsV RX5 84 RX0 yX0_vector wsX0_vector) := goodIn_app (goodIn_of _ (by decide +kernel)) ggX5_leg_X0_vector
theorem dX5_leg_0 : decode cX5_leg 0 = .ok (.aload_n 0, 1) := by decide +kernel
theorem dX5_leg_1 : decode cX5_leg 1 = .ok (.getfield 19, 3) := by decide +kernel
theorem dX5_leg_4 : decode cX5_leg 4 = .ok (.iload_n 1, 1) := by decide +kernel
theorem dX5_leg_5 : decode cX5_leg 5 = .ok (.invokevirtual 76, 3) := by decide +kernel
theorem dX5_leg_8 : decode cX5_leg 8 = .ok (.ifCond .ne 5, 3) := by decide +kernel
theorem dX5_leg_11 : decode cX5_leg 11 = .ok (.iconst (-1), 1) := by decide +kernel
theorem dX5_leg_12 : decode cX5_leg 12 = .ok (.ireturn, 1) := by decide +kernel
theorem dX5_leg_13 : decode cX5_leg 13 = .ok (.iload_n 2, 1) := by decide +kernel
theorem dX5_leg_14 : decode cX5_leg 14 = .ok (.ifCond .lt 9, 3) := by decide +kernel
theorem dX5_leg_17 : decode cX5_leg 17 = .ok (.iload_n 2, 1) := by decide +kernel
theorem dX5_leg_18 : decode cX5_leg 18 = .ok (.bipush 10, 2) := by decide +kernel
theorem dX5_leg_20 : decode cX5_leg 20 = .ok (.if_icmp .lt 6, 3) := by decide +kernel
theorem dX5_leg_23 : decode cX5_leg 23 = .ok (.bipush (-2), 2) := by decide +kernel
theorem dX5_leg_25 : decode cX5_leg 25 = .ok (.ireturn, 1) := by decide +kernel
theorem dX5_leg_26 : decode cX5_leg 26 = .ok (.iload_n 2, 1) := by decide +kernel
theorem dX5_leg_27 : decode cX5_leg 27 = .ok (.bipush 7, 2) := by decide +kernel
theorem dX5_leg_29 : decode cX5_leg 29 = .ok (.if_icmp .ge 15, 3) := by decide +kernel
theorem dX5_leg_32 : decode cX5_leg 32 = .ok (.aload_n 0, 1) := by decide +kernel
theorem dX5_leg_33 : decode cX5_leg 33 = .ok (.getfield 19, 3) := by decide +kernel
theorem dX5_leg_36 : decode cX5_leg 36 = .ok (.iload_n 1, 1) := by decide +kernel
theorem dX5_leg_37 : decode cX5_leg 37 = .ok (.iload_n 2, 1) := by decide +kernel
theorem dX5_leg_38 : decode cX5_leg 38 = .ok (.invokevirtual 80, 3) := by decide +kernel
theorem dX5_leg_41 : decode cX5_leg 41 = .ok (.goto 18, 3) := by decide +kernel
theorem dX5_leg_44 : decode cX5_leg 44 = .ok (.aload_n 0, 1) := by decide +kernel
theorem dX5_leg_45 : decode cX5_leg 45 = .ok (.getfield 19, 3) := by decide +kernel
theorem dX5_leg_48 : decode cX5_leg 48 = .ok (.iload_n 1, 1) := by decide +kernel
theorem dX5_leg_49 : decode cX5_leg 49 = .ok (.iload_n 2, 1) := by decide +kernel
theorem dX5_leg_50 : decode cX5_leg 50 = .ok (.bipush 7, 2) := by decide +kernel
theorem dX5_leg_52 : decode cX5_leg 52 = .ok (.isub, 1) := by decide +kernel
theorem dX5_leg_53 : decode cX5_leg 53 = .ok (.invokevirtual 84, 3) := by decide +kernel
theorem dX5_leg_56 : decode cX5_leg 56 = .ok (.bipush 100, 2) := by decide +kernel
theorem dX5_leg_58 : decode cX5_leg 58 = .ok (.iadd, 1) := by decide +kernel
theorem dX5_leg_59 : decode cX5_leg 59 = .ok (.ireturn, 1) := by decide +kernel
set_option maxRecDepth 20000 in
theorem ggX5_measure_X0_hasStation : GoodIn wsX5_measure wsX0_hasStation := goodIn_r _ [8, 9, 57, 58, 59] (by decide +kernel) (by decide +kernel)
set_option maxRecDepth 20000 in
theorem gX5_measure_X0_hasStation : GoodIn wsX5_measure (wsV RX5 87 RX0 yX0_hasStation wsX0_hasStation) := goodIn_app (goodIn_of _ (by decide +kernel)) ggX5_measure_X0_hasStation
set_option maxRecDepth 20000 in
theorem ggX5_measure_X5_allows : GoodIn wsX5_measure wsX5_allows := goodIn_r _ [13] (by decide +kernel) (by decide +kernel)
set_option maxRecDepth 20000 in
theorem gX5_measure_X5_allows : GoodIn wsX5_measure (va_wsS RX5 90 yX5_allows wsX5_allows) := goodIn_app (goodIn_of _ (by decide +kernel)) ggX5_measure_X5_allows
set_option maxRecDepth 20000 in
theorem ggX5_measure_X1_remember : GoodIn wsX5_measure wsX1_remember := goodIn_r _ [18, 19, 20, 21, 22, 7, 23, 24, 25, 26, 27, 28, 29, 30, 31, 32, 33, 34, 9, 35, 36, 37, 38, 39, 60, 61, 62, 57, 58, 59] (by decide +kernel) (by decide +kernel)
set_option maxRecDepth 20000 in
theorem gX5_measure_X1_remember : GoodIn wsX5_measure (wsV RX5 94 RX1 yX1_remember wsX1_remember) := goodIn_app (goodIn_of _ (by decide +kernel)) ggX5_measure_X1_remember
set_option maxRecDepth 20000 in
theorem ggX5_measure_X0_add : GoodIn wsX5_measure wsX0_add := goodIn_r _ [43, 39, 44, 45, 46, 7, 47, 34, 57, 58, 59] (by decide +kernel) (by decide +kernel)
set_option maxRecDepth 20000 in
theorem gX5_measure_X0_add : GoodIn wsX5_measure (wsV RX5 97 RX0 yX0_add wsX0_add) := goodIn_app (goodIn_of _ (by decide +kernel)) ggX5_measure_X0_add
theorem dX5_measure_0 : decode cX5_measure 0 = .ok (.aload_n 0, 1) := by decide +kernel
theorem dX5_measure_1 : decode cX5_measure 1 = .ok (.getfield 19, 3) := by decide +kernel
theorem dX5_measure_4 : decode cX5_measure 4 = .ok (.iload_n 1, 1) := by decide +kernel
theorem dX5_measure_5 : decode cX5_measure 5 = .ok (.invokevirtual 87, 3) := by decide +kernel
theorem dX5_measure_8 : decode cX5_measure 8 = .ok (.ifCond .eq 14, 3) := by decide +kernel
theorem dX5_measure_11 : decode cX5_measure 11 = .ok (.aload_n 0, 1) := by decide +kernel
theorem dX5_measure_12 : decode cX5_measure 12 = .ok (.getfield 19, 3) := by decide +kernel
theorem dX5_measure_15 : decode cX5_measure 15 = .ok (.iload_n 2, 1) := by decide +kernel
theorem dX5_measure_16 : decode cX5_measure 16 = .ok (.invokevirtual 87, 3) := by decide +kernel
theorem dX5_measure_19 : decode cX5_measure 19 = .ok (.ifCond .ne 5, 3) := by decide +kernel
theorem dX5_measure_22 : decode cX5_measure 22 = .ok (.iconst (-1), 1) := by decide +kernel
theorem dX5_measure_23 : decode cX5_measure 23 = .ok (.ireturn, 1) := by decide +kernel
theorem dX5_measure_24 : decode cX5_measure 24 = .ok (.iload_n 1, 1) := by decide +kernel
theorem dX5_measure_25 : decode cX5_measure 25 = .ok (.iload_n 2, 1) := by decide +kernel
theorem dX5_measure_26 : decode cX5_measure 26 = .ok (.if_icmp .ne 6, 3) := by decide +kernel
theorem dX5_measure_29 : decode cX5_measure 29 = .ok (.bipush (-3), 2) := by decide +kernel
theorem dX5_measure_31 : decode cX5_measure 31 = .ok (.ireturn, 1) := by decide +kernel
theorem dX5_measure_32 : decode cX5_measure 32 = .ok (.iconst 0, 1) := by decide +kernel
theorem dX5_measure_33 : decode cX5_measure 33 = .ok (.iload_n 3, 1) := by decide +kernel
theorem dX5_measure_34 : decode cX5_measure 34 = .ok (.invokestatic 90, 3) := by decide +kernel
theorem dX5_measure_37 : decode cX5_measure 37 = .ok (.ifCond .eq 30, 3) := by decide +kernel
theorem dX5_measure_40 : decode cX5_measure 40 = .ok (.iconst 1, 1) := by decide +kernel
theorem dX5_measure_41 : decode cX5_measure 41 = .ok (.iload 4, 2) := by decide +kernel
theorem dX5_measure_43 : decode cX5_measure 43 = .ok (.invokestatic 90, 3) := by decide +kernel
theorem dX5_measure_46 : decode cX5_measure 46 = .ok (.ifCond .eq 21, 3) := by decide +kernel
theorem dX5_measure_49 : decode cX5_measure 49 = .ok (.iconst 2, 1) := by decide +kernel
theorem dX5_measure_50 : decode cX5_measure 50 = .ok (.iload 5, 2) := by decide +kernel
theorem dX5_measure_52 : decode cX5_measure 52 = .ok (.invokestatic 90, 3) := by decide +kernel
theorem dX5_measure_55 : decode cX5_measure 55 = .ok (.ifCond .eq 12, 3) := by decide +kernel
theorem dX5_measure_58 : decode cX5_measure 58 = .ok (.iconst 3, 1) := by decide +kernel
theorem dX5_measure_59 : decode cX5_measure 59 = .ok (.iload 6, 2) := by decide +kernel
theorem dX5_measure_61 : decode cX5_measure 61 = .ok (.invokestatic 90, 3) := by decide +kernel
theorem dX5_measure_64 : decode cX5_measure 64 = .ok (.ifCond .ne 6, 3) := by decide +kernel
theorem dX5_measure_67 : decode cX5_measure 67 = .ok (.bipush (-2), 2) := by decide +kernel
theorem dX5_measure_69 : decode cX5_measure 69 = .ok (.ireturn, 1) := by decide +kernel
theorem dX5_measure_70 : decode cX5_measure 70 = .ok (.aload_n 0, 1) := by decide +kernel
theorem dX5_measure_71 : decode cX5_measure 71 = .ok (.getfield 19, 3) := by decide +kernel
theorem dX5_measure_74 : decode cX5_measure 74 = .ok (.getfield 73, 3) := by decide +kernel
theorem dX5_measure_77 : decode cX5_measure 77 = .ok (.bipush 8, 2) := by decide +kernel
theorem dX5_measure_79 : decode cX5_measure 79 = .ok (.if_icmp .lt 6, 3) := by decide +kernel
theorem dX5_measure_82 : decode cX5_measure 82 = .ok (.bipush (-4), 2) := by decide +kernel
theorem dX5_measure_84 : decode cX5_measure 84 = .ok (.ireturn, 1) := by decide +kernel
theorem dX5_measure_85 : decode cX5_measure 85 = .ok (.aload_n 0, 1) := by decide +kernel
theorem dX5_measure_86 : decode cX5_measure 86 = .ok (.getfield 26, 3) := by decide +kernel
theorem dX5_measure_89 : decode cX5_measure 89 = .ok (.aload_n 0, 1) := by decide +kernel
theorem dX5_measure_90 : decode cX5_measure 90 = .ok (.getfield 19, 3) := by decide +kernel
theorem dX5_measure_93 : decode cX5_measure 93 = .ok (.invokevirtual 94, 3) := by decide +kernel
theorem dX5_measure_96 : decode cX5_measure 96 = .ok (.aload_n 0, 1) := by decide +kernel
theorem dX5_measure_97 : decode cX5_measure 97 = .ok (.getfield 19, 3) := by decide +kernel
theorem dX5_measure_100 : decode cX5_measure 100 = .ok (.iload_n 1, 1) := by decide +kernel
theorem dX5_measure_101 : decode cX5_measure 101 = .ok (.iload_n 2, 1) := by decide +kernel
theorem dX5_measure_102 : decode cX5_measure 102 = .ok (.iload_n 3, 1) := by decide +kernel
theorem dX5_measure_103 : decode cX5_measure 103 = .ok (.iload 4, 2) := by decide +kernel
theorem dX5_measure_105 : decode cX5_measure 105 = .ok (.iload 5, 2) := by decide +kernel
theorem dX5_measure_107 : decode cX5_measure 107 = .ok (.iload 6, 2) := by decide +kernel
theorem dX5_measure_109 : decode cX5_measure 109 = .ok (.invokevirtual 97, 3) := by decide +kernel
theorem dX5_measure_112 : decode cX5_measure 112 = .ok (.aload_n 0, 1) := by decide +kernel
theorem dX5_measure_113 : decode cX5_measure 113 = .ok (.getfield 19, 3) := by decide +kernel
theorem dX5_measure_116 : decode cX5_measure 116 = .ok (.getfield 73, 3) := by decide +kernel
theorem dX5_measure_119 : decode cX5_measure 119 = .ok (.ireturn, 1) := by decide +kernel
set_option maxRecDepth 20000 in
theorem ggX5_take_X0_has : GoodIn wsX5_take wsX0_has := goodIn_r _ [8, 9, 50, 51, 52] (by decide +kernel) (by decide +kernel)
set_option maxRecDepth 20000 in
theorem gX5_take_X0_has : GoodIn wsX5_take (wsV RX5 76 RX0 yX0_has wsX0_has) := goodIn_app (goodIn_of _ (by decide +kernel)) ggX5_take_X0_has
set_option maxRecDepth 20000 in
theorem ggX5_take_X1_remember : GoodIn wsX5_take wsX1_remember := goodIn_r _ [14, 15, 16, 17, 18, 7, 19, 20, 21, 22, 23, 24, 25, 26, 27, 28, 29, 30, 31, 32, 33, 34, 35, 9, 53, 54, 55, 50, 51, 52] (by decide +kernel) (by decide +kernel)
set_option maxRecDepth 20000 in
theorem gX5_take_X1_remember : GoodIn wsX5_take (wsV RX5 94 RX1 yX1_remember wsX1_remember) := goodIn_app (goodIn_of _ (by decide +kernel)) ggX5_take_X1_remember
set_option maxRecDepth 20000 in
theorem ggX5_take_X0_remove : GoodIn wsX5_take wsX0_remove := goodIn_r _ [39, 30, 9, 40, 5, 6, 7, 8, 50, 51, 52] (by decide +kernel) (by decide +kernel)
set_option maxRecDepth 20000 in
theorem gX5_take_X0_remove : GoodIn wsX5_take (wsV RX5 101 RX0 yX0_remove wsX0_remove) := goodIn_app (goodIn_of _ (by decide +kernel)) ggX5_take_X0_remove
theorem dX5_take_0 : decode cX5_take 0 = .ok (.aload_n 0, 1) := by decide +kernel
theorem dX5_take_1 : decode cX5_take 1 = .ok (.getfield 19, 3) := by decide +kernel
theorem dX5_take_4 : decode cX5_take 4 = .ok (.iload_n 1, 1) := by decide +kernel
theorem dX5_take_5 : decode cX5_take 5 = .ok (.invokevirtual 76, 3) := by decide +kernel
theorem dX5_take_8 : decode cX5_take 8 = .ok (.ifCond .ne 5, 3) := by decide +kernel
theorem dX5_take_11 : decode cX5_take 11 = .ok (.iconst (-1), 1) := by decide +kernel
theorem dX5_take_12 : decode cX5_take 12 = .ok (.ireturn, 1) := by decide +kernel
theorem dX5_take_13 : decode cX5_take 13 = .ok (.aload_n 0, 1) := by decide +kernel
theorem dX5_take_14 : decode cX5_take 14 = .ok (.getfield 26, 3) := by decide +kernel
theorem dX5_take_17 : decode cX5_take 17 = .ok (.aload_n 0, 1) := by decide +kernel
theorem dX5_take_18 : decode cX5_take 18 = .ok (.getfield 19, 3) := by decide +kernel
theorem dX5_take_21 : decode cX5_take 21 = .ok (.invokevirtual 94, 3) := by decide +kernel
theorem dX5_take_24 : decode cX5_take 24 = .ok (.aload_n 0, 1) := by decide +kernel
theorem dX5_take_25 : decode cX5_take 25 = .ok (.getfield 19, 3) := by decide +kernel
theorem dX5_take_28 : decode cX5_take 28 = .ok (.iload_n 1, 1) := by decide +kernel
theorem dX5_take_29 : decode cX5_take 29 = .ok (.invokevirtual 101, 3) := by decide +kernel
theorem dX5_take_32 : decode cX5_take 32 = .ok (.aload_n 0, 1) := by decide +kernel
theorem dX5_take_33 : decode cX5_take 33 = .ok (.getfield 19, 3) := by decide +kernel
theorem dX5_take_36 : decode cX5_take 36 = .ok (.getfield 73, 3) := by decide +kernel
theorem dX5_take_39 : decode cX5_take 39 = .ok (.ireturn, 1) := by decide +kernel
set_option maxRecDepth 20000 in
theorem ggX5_read_X0_has : GoodIn wsX5_read wsX0_has := goodIn_r _ [7, 8, 56, 57, 58] (by decide +kernel) (by decide +kernel)
set_option maxRecDepth 20000 in
theorem gX5_read_X0_has : GoodIn wsX5_read (wsV RX5 76 RX0 yX0_has wsX0_has) := goodIn_app (goodIn_of _ (by decide +kernel)) ggX5_read_X0_has
set_option maxRecDepth 20000 in
theorem ggX5_read_X5_allows : GoodIn wsX5_read wsX5_allows := goodIn_r _ [12] (by decide +kernel) (by decide +kernel)
set_option maxRecDepth 20000 in
theorem gX5_read_X5_allows : GoodIn wsX5_read (va_wsS RX5 90 yX5_allows wsX5_allows) := goodIn_app (goodIn_of _ (by decide +kernel)) ggX5_read_X5_allows
set_option maxRecDepth 20000 in
theorem ggX5_read_X1_remember : GoodIn wsX5_read wsX1_remember := goodIn_r _ [17, 18, 19, 20, 21, 6, 22, 23, 24, 25, 26, 27, 28, 29, 30, 31, 32, 33, 34, 35, 36, 37, 38, 8, 59, 60, 61, 56, 57, 58] (by decide +kernel) (by decide +kernel)
set_option maxRecDepth 20000 in
theorem gX5_read_X1_remember : GoodIn wsX5_read (wsV RX5 94 RX1 yX1_remember wsX1_remember) := goodIn_app (goodIn_of _ (by decide +kernel)) ggX5_read_X1_remember
set_option maxRecDepth 20000 in
theorem ggX5_read_X0_get : GoodIn wsX5_read wsX0_get := goodIn_r _ [42, 33, 56, 57, 58] (by decide +kernel) (by decide +kernel)
set_option maxRecDepth 20000 in
theorem gX5_read_X0_get : GoodIn wsX5_read (wsV RX5 80 RX0 yX0_get wsX0_get) := goodIn_app (goodIn_of _ (by decide +kernel)) ggX5_read_X0_get
set_option maxRecDepth 20000 in
theorem ggX5_read_X0_put : GoodIn wsX5_read wsX0_put := goodIn_r _ [46, 33, 56, 57, 58] (by decide +kernel) (by decide +kernel)
set_option maxRecDepth 20000 in
theorem gX5_read_X0_put : GoodIn wsX5_read (wsV RX5 105 RX0 yX0_put wsX0_put) := goodIn_app (goodIn_of _ (by decide +kernel)) ggX5_read_X0_put
theorem dX5_read_0 : decode cX5_read 0 = .ok (.aload_n 0, 1) := by decide +kernel
theorem dX5_read_1 : decode cX5_read 1 = .ok (.getfield 19, 3) := by decide +kernel
theorem dX5_read_4 : decode cX5_read 4 = .ok (.iload_n 1, 1) := by decide +kernel
theorem dX5_read_5 : decode cX5_read 5 = .ok (.invokevirtual 76, 3) := by decide +kernel
theorem dX5_read_8 : decode cX5_read 8 = .ok (.ifCond .ne 5, 3) := by decide +kernel
theorem dX5_read_11 : decode cX5_read 11 = .ok (.iconst (-1), 1) := by decide +kernel
theorem dX5_read_12 : decode cX5_read 12 = .ok (.ireturn, 1) := by decide +kernel
theorem dX5_read_13 : decode cX5_read 13 = .ok (.iload_n 2, 1) := by decide +kernel
theorem dX5_read_14 : decode cX5_read 14 = .ok (.iload_n 3, 1) := by decide +kernel
theorem dX5_read_15 : decode cX5_read 15 = .ok (.invokestatic 90, 3) := by decide +kernel
theorem dX5_read_18 : decode cX5_read 18 = .ok (.ifCond .ne 6, 3) := by decide +kernel
theorem dX5_read_21 : decode cX5_read 21 = .ok (.bipush (-2), 2) := by decide +kernel
theorem dX5_read_23 : decode cX5_read 23 = .ok (.ireturn, 1) := by decide +kernel
theorem dX5_read_24 : decode cX5_read 24 = .ok (.aload_n 0, 1) := by decide +kernel
theorem dX5_read_25 : decode cX5_read 25 = .ok (.getfield 26, 3) := by decide +kernel
theorem dX5_read_28 : decode cX5_read 28 = .ok (.aload_n 0, 1) := by decide +kernel
theorem dX5_read_29 : decode cX5_read 29 = .ok (.getfield 19, 3) := by decide +kernel
theorem dX5_read_32 : decode cX5_read 32 = .ok (.invokevirtual 94, 3) := by decide +kernel
theorem dX5_read_35 : decode cX5_read 35 = .ok (.aload_n 0, 1) := by decide +kernel
theorem dX5_read_36 : decode cX5_read 36 = .ok (.getfield 19, 3) := by decide +kernel
theorem dX5_read_39 : decode cX5_read 39 = .ok (.iload_n 1, 1) := by decide +kernel
theorem dX5_read_40 : decode cX5_read 40 = .ok (.iload_n 2, 1) := by decide +kernel
theorem dX5_read_41 : decode cX5_read 41 = .ok (.invokevirtual 80, 3) := by decide +kernel
theorem dX5_read_44 : decode cX5_read 44 = .ok (.istore 4, 2) := by decide +kernel
theorem dX5_read_46 : decode cX5_read 46 = .ok (.aload_n 0, 1) := by decide +kernel
theorem dX5_read_47 : decode cX5_read 47 = .ok (.getfield 19, 3) := by decide +kernel
theorem dX5_read_50 : decode cX5_read 50 = .ok (.iload_n 1, 1) := by decide +kernel
theorem dX5_read_51 : decode cX5_read 51 = .ok (.iload_n 2, 1) := by decide +kernel
theorem dX5_read_52 : decode cX5_read 52 = .ok (.iload_n 3, 1) := by decide +kernel
theorem dX5_read_53 : decode cX5_read 53 = .ok (.invokevirtual 105, 3) := by decide +kernel
theorem dX5_read_56 : decode cX5_read 56 = .ok (.iload 4, 2) := by decide +kernel
theorem dX5_read_58 : decode cX5_read 58 = .ok (.ireturn, 1) := by decide +kernel
set_option maxRecDepth 20000 in
theorem ggX5_fall_X0_has : GoodIn wsX5_fall wsX0_has := goodIn_r _ [7, 8, 57, 58, 59] (by decide +kernel) (by decide +kernel)
set_option maxRecDepth 20000 in
theorem gX5_fall_X0_has : GoodIn wsX5_fall (wsV RX5 76 RX0 yX0_has wsX0_has) := goodIn_app (goodIn_of _ (by decide +kernel)) ggX5_fall_X0_has
set_option maxRecDepth 20000 in
theorem ggX5_fall_X1_remember : GoodIn wsX5_fall wsX1_remember := goodIn_r _ [13, 14, 15, 16, 17, 6, 18, 19, 20, 21, 22, 23, 24, 25, 26, 27, 28, 29, 30, 31, 32, 33, 34, 8, 60, 61, 62, 57, 58, 59] (by decide +kernel) (by decide +kernel)
set_option maxRecDepth 20000 in
theorem gX5_fall_X1_remember : GoodIn wsX5_fall (wsV RX5 94 RX1 yX1_remember wsX1_remember) := goodIn_app (goodIn_of _ (by decide +kernel)) ggX5_fall_X1_remember
set_option maxRecDepth 20000 in
theorem ggX5_fall_X0_turn : GoodIn wsX5_fall wsX0_turn := goodIn_r _ [38, 39, 40, 41, 6, 42, 29, 43, 44, 45, 46, 57, 58, 59] (by decide +kernel) (by decide +kernel)
set_option maxRecDepth 20000 in
theorem gX5_fall_X0_turn : GoodIn wsX5_fall (wsV RX5 109 RX0 yX0_turn wsX0_turn) := goodIn_app (goodIn_of _ (by decide +kernel)) ggX5_fall_X0_turn
set_option maxRecDepth 20000 in
theorem ggX5_fall_X0_get : GoodIn wsX5_fall wsX0_get := goodIn_r _ [42, 29, 57, 58, 59] (by decide +kernel) (by decide +kernel)
set_option maxRecDepth 20000 in
theorem gX5_fall_X0_get : GoodIn wsX5_fall (wsV RX5 80 RX0 yX0_get wsX0_get) := goodIn_app (goodIn_of _ (by decide +kernel)) ggX5_fall_X0_get
theorem dX5_fall_0 : decode cX5_fall 0 = .ok (.aload_n 0, 1) := by decide +kernel
theorem dX5_fall_1 : decode cX5_fall 1 = .ok (.getfield 19, 3) := by decide +kernel
theorem dX5_fall_4 : decode cX5_fall 4 = .ok (.iload_n 1, 1) := by decide +kernel
theorem dX5_fall_5 : decode cX5_fall 5 = .ok (.invokevirtual 76, 3) := by decide +kernel
theorem dX5_fall_8 : decode cX5_fall 8 = .ok (.ifCond .ne 5, 3) := by decide +kernel
theorem dX5_fall_11 : decode cX5_fall 11 = .ok (.iconst (-1), 1) := by decide +kernel
theorem dX5_fall_12 : decode cX5_fall 12 = .ok (.ireturn, 1) := by decide +kernel
theorem dX5_fall_13 : decode cX5_fall 13 = .ok (.aload_n 0, 1) := by decide +kernel
theorem dX5_fall_14 : decode cX5_fall 14 = .ok (.getfield 26, 3) := by decide +kernel
theorem dX5_fall_17 : decode cX5_fall 17 = .ok (.aload_n 0, 1) := by decide +kernel
theorem dX5_fall_18 : decode cX5_fall 18 = .ok (.getfield 19, 3) := by decide +kernel
theorem dX5_fall_21 : decode cX5_fall 21 = .ok (.invokevirtual 94, 3) := by decide +kernel
theorem dX5_fall_24 : decode cX5_fall 24 = .ok (.aload_n 0, 1) := by decide +kernel
theorem dX5_fall_25 : decode cX5_fall 25 = .ok (.getfield 19, 3) := by decide +kernel
theorem dX5_fall_28 : decode cX5_fall 28 = .ok (.iload_n 1, 1) := by decide +kernel
theorem dX5_fall_29 : decode cX5_fall 29 = .ok (.invokevirtual 109, 3) := by decide +kernel
theorem dX5_fall_32 : decode cX5_fall 32 = .ok (.aload_n 0, 1) := by decide +kernel
theorem dX5_fall_33 : decode cX5_fall 33 = .ok (.getfield 19, 3) := by decide +kernel
theorem dX5_fall_36 : decode cX5_fall 36 = .ok (.iload_n 1, 1) := by decide +kernel
theorem dX5_fall_37 : decode cX5_fall 37 = .ok (.bipush 6, 2) := by decide +kernel
theorem dX5_fall_39 : decode cX5_fall 39 = .ok (.invokevirtual 80, 3) := by decide +kernel
theorem dX5_fall_42 : decode cX5_fall 42 = .ok (.ireturn, 1) := by decide +kernel
set_option maxRecDepth 20000 in
theorem ggX5_undo_X1_restore : GoodIn wsX5_undo wsX1_restore := goodIn_r _ [8, 9, 10, 11, 12, 13, 14, 15, 16, 17, 18, 19, 29, 30, 31, 32, 33, 34] (by decide +kernel) (by decide +kernel)
set_option maxRecDepth 20000 in
theorem gX5_undo_X1_restore : GoodIn wsX5_undo (wsV RX5 112 RX1 yX1_restore wsX1_restore) := goodIn_app (goodIn_of _ (by decide +kernel)) ggX5_undo_X1_restore
theorem dX5_undo_0 : decode cX5_undo 0 = .ok (.aload_n 0, 1) := by decide +kernel
theorem dX5_undo_1 : decode cX5_undo 1 = .ok (.getfield 26, 3) := by decide +kernel
theorem dX5_undo_4 : decode cX5_undo 4 = .ok (.aload_n 0, 1) := by decide +kernel
theorem dX5_undo_5 : decode cX5_undo 5 = .ok (.getfield 19, 3) := by decide +kernel
theorem dX5_undo_8 : decode cX5_undo 8 = .ok (.invokevirtual 112, 3) := by decide +kernel
theorem dX5_undo_11 : decode cX5_undo 11 = .ok (.ifCond .eq 13, 3) := by decide +kernel
theorem dX5_undo_14 : decode cX5_undo 14 = .ok (.aload_n 0, 1) := by decide +kernel
theorem dX5_undo_15 : decode cX5_undo 15 = .ok (.getfield 26, 3) := by decide +kernel
theorem dX5_undo_18 : decode cX5_undo 18 = .ok (.getfield 116, 3) := by decide +kernel
theorem dX5_undo_21 : decode cX5_undo 21 = .ok (.goto 5, 3) := by decide +kernel
theorem dX5_undo_24 : decode cX5_undo 24 = .ok (.bipush (-3), 2) := by decide +kernel
theorem dX5_undo_26 : decode cX5_undo 26 = .ok (.ireturn, 1) := by decide +kernel
set_option maxRecDepth 20000 in
theorem ggX5_laid_X5_stationError : GoodIn wsX5_laid wsX5_stationError := goodIn_r _ [7, 2, 8, 9, 10, 11, 12, 13, 14, 15, 16, 17, 18, 19, 20, 21, 22, 23, 24, 25, 26, 27, 28, 29, 6, 30, 77, 78, 79, 80, 81, 82, 83, 84, 85, 86, 87, 88] (by decide +kernel) (by decide +kernel)
set_option maxRecDepth 20000 in
theorem gX5_laid_X5_stationError : GoodIn wsX5_laid (wsV RX5 119 RX5 yX5_stationError wsX5_stationError) := goodIn_app (goodIn_of _ (by decide +kernel)) ggX5_laid_X5_stationError
set_option maxRecDepth 20000 in
theorem ggX5_laid_X3_plot : GoodIn wsX5_laid wsX3_plot := goodIn_r _ [35, 36, 37, 38, 39, 40, 41, 42, 43, 11, 44, 22, 45, 46, 47, 48, 27, 49, 29, 6, 30, 50, 51, 52, 53, 54, 55, 56, 57, 58, 59, 60, 61, 62, 63, 64, 65, 66, 67, 68, 69, 70, 34, 71, 72, 73, 74, 75, 89, 90, 91, 92, 86, 87, 88] (by decide +kernel) (by decide +kernel)
set_option maxRecDepth 20000 in
theorem gX5_laid_X3_plot : GoodIn wsX5_laid (wsV RX5 122 RX3 yX3_plot wsX3_plot) := goodIn_app (goodIn_of _ (by decide +kernel)) ggX5_laid_X3_plot
set_option maxRecDepth 20000 in
theorem ggX5_laid_X3_place : GoodIn wsX5_laid wsX3_place := goodIn_r _ [71, 36, 89, 90, 91, 92] (by decide +kernel) (by decide +kernel)
set_option maxRecDepth 20000 in
theorem gX5_laid_X3_place : GoodIn wsX5_laid (wsV RX5 125 RX3 yX3_place wsX3_place) := goodIn_app (goodIn_of _ (by decide +kernel)) ggX5_laid_X3_place
theorem dX5_laid_0 : decode cX5_laid 0 = .ok (.aload_n 0, 1) := by decide +kernel
theorem dX5_laid_1 : decode cX5_laid 1 = .ok (.iload_n 1, 1) := by decide +kernel
theorem dX5_laid_2 : decode cX5_laid 2 = .ok (.iload_n 2, 1) := by decide +kernel
theorem dX5_laid_3 : decode cX5_laid 3 = .ok (.invokevirtual 119, 3) := by decide +kernel
theorem dX5_laid_6 : decode cX5_laid 6 = .ok (.istore_n 3, 1) := by decide +kernel
theorem dX5_laid_7 : decode cX5_laid 7 = .ok (.iload_n 3, 1) := by decide +kernel
theorem dX5_laid_8 : decode cX5_laid 8 = .ok (.bipush (-9), 2) := by decide +kernel
theorem dX5_laid_10 : decode cX5_laid 10 = .ok (.if_icmp .eq 5, 3) := by decide +kernel
theorem dX5_laid_13 : decode cX5_laid 13 = .ok (.iload_n 3, 1) := by decide +kernel
theorem dX5_laid_14 : decode cX5_laid 14 = .ok (.ireturn, 1) := by decide +kernel
theorem dX5_laid_15 : decode cX5_laid 15 = .ok (.aload_n 0, 1) := by decide +kernel
theorem dX5_laid_16 : decode cX5_laid 16 = .ok (.getfield 44, 3) := by decide +kernel
theorem dX5_laid_19 : decode cX5_laid 19 = .ok (.aload_n 0, 1) := by decide +kernel
theorem dX5_laid_20 : decode cX5_laid 20 = .ok (.getfield 19, 3) := by decide +kernel
theorem dX5_laid_23 : decode cX5_laid 23 = .ok (.invokevirtual 122, 3) := by decide +kernel
theorem dX5_laid_26 : decode cX5_laid 26 = .ok (.aload_n 0, 1) := by decide +kernel
theorem dX5_laid_27 : decode cX5_laid 27 = .ok (.getfield 44, 3) := by decide +kernel
theorem dX5_laid_30 : decode cX5_laid 30 = .ok (.iload_n 1, 1) := by decide +kernel
theorem dX5_laid_31 : decode cX5_laid 31 = .ok (.iload_n 2, 1) := by decide +kernel
theorem dX5_laid_32 : decode cX5_laid 32 = .ok (.invokevirtual 125, 3) := by decide +kernel
theorem dX5_laid_35 : decode cX5_laid 35 = .ok (.sipush 1000, 3) := by decide +kernel
theorem dX5_laid_38 : decode cX5_laid 38 = .ok (.iadd, 1) := by decide +kernel
theorem dX5_laid_39 : decode cX5_laid 39 = .ok (.ireturn, 1) := by decide +kernel
set_option maxRecDepth 20000 in
theorem ggX5_miss_X5_legError : GoodIn wsX5_miss wsX5_legError := goodIn_r _ [7, 2, 8, 9, 10, 11, 12, 13, 14, 15, 16, 17, 18, 19, 20, 21, 22, 23, 24, 25, 26, 27, 28, 29, 30, 31, 32, 33, 34, 35, 36, 6, 37, 83, 84, 85, 86, 87, 88, 89, 90, 91, 92, 93, 94] (by decide +kernel) (by decide +kernel)
set_option maxRecDepth 20000 in
theorem gX5_miss_X5_legError : GoodIn wsX5_miss (wsV RX5 128 RX5 yX5_legError wsX5_legError) := goodIn_app (goodIn_of _ (by decide +kernel)) ggX5_miss_X5_legError
set_option maxRecDepth 20000 in
theorem ggX5_miss_X3_plot : GoodIn wsX5_miss wsX3_plot := goodIn_r _ [42, 43, 44, 45, 46, 47, 48, 49, 50, 11, 51, 13, 31, 32, 33, 34, 26, 52, 36, 6, 37, 53, 54, 55, 56, 57, 58, 59, 60, 61, 62, 63, 64, 65, 66, 67, 68, 69, 70, 71, 72, 73, 41, 74, 75, 76, 77, 78, 95, 96, 97, 98, 92, 93, 94] (by decide +kernel) (by decide +kernel)
set_option maxRecDepth 20000 in
theorem gX5_miss_X3_plot : GoodIn wsX5_miss (wsV RX5 122 RX3 yX3_plot wsX3_plot) := goodIn_app (goodIn_of _ (by decide +kernel)) ggX5_miss_X3_plot
set_option maxRecDepth 20000 in
theorem ggX5_miss_X3_misclosure : GoodIn wsX5_miss wsX3_misclosure := goodIn_r _ [82, 52, 32, 33, 11, 34, 26, 53, 54, 55, 56, 31, 57, 58, 59, 60, 61, 62, 63, 64, 65, 66, 67, 68, 69, 70, 71, 72, 73, 41, 74, 43, 92, 93, 94, 95, 96, 97, 98] (by decide +kernel) (by decide +kernel)
set_option maxRecDepth 20000 in
theorem gX5_miss_X3_misclosure : GoodIn wsX5_miss (wsV RX5 131 RX3 yX3_misclosure wsX3_misclosure) := goodIn_app (goodIn_of _ (by decide +kernel)) ggX5_miss_X3_misclosure
theorem dX5_miss_0 : decode cX5_miss 0 = .ok (.aload_n 0, 1) := by decide +kernel
theorem dX5_miss_1 : decode cX5_miss 1 = .ok (.iload_n 1, 1) := by decide +kernel
theorem dX5_miss_2 : decode cX5_miss 2 = .ok (.iload_n 2, 1) := by decide +kernel
theorem dX5_miss_3 : decode cX5_miss 3 = .ok (.invokevirtual 128, 3) := by decide +kernel
theorem dX5_miss_6 : decode cX5_miss 6 = .ok (.istore_n 3, 1) := by decide +kernel
theorem dX5_miss_7 : decode cX5_miss 7 = .ok (.iload_n 3, 1) := by decide +kernel
theorem dX5_miss_8 : decode cX5_miss 8 = .ok (.bipush (-9), 2) := by decide +kernel
theorem dX5_miss_10 : decode cX5_miss 10 = .ok (.if_icmp .eq 5, 3) := by decide +kernel
theorem dX5_miss_13 : decode cX5_miss 13 = .ok (.iload_n 3, 1) := by decide +kernel
theorem dX5_miss_14 : decode cX5_miss 14 = .ok (.ireturn, 1) := by decide +kernel
theorem dX5_miss_15 : decode cX5_miss 15 = .ok (.aload_n 0, 1) := by decide +kernel
theorem dX5_miss_16 : decode cX5_miss 16 = .ok (.getfield 44, 3) := by decide +kernel
theorem dX5_miss_19 : decode cX5_miss 19 = .ok (.aload_n 0, 1) := by decide +kernel
theorem dX5_miss_20 : decode cX5_miss 20 = .ok (.getfield 19, 3) := by decide +kernel
theorem dX5_miss_23 : decode cX5_miss 23 = .ok (.invokevirtual 122, 3) := by decide +kernel
theorem dX5_miss_26 : decode cX5_miss 26 = .ok (.aload_n 0, 1) := by decide +kernel
theorem dX5_miss_27 : decode cX5_miss 27 = .ok (.getfield 44, 3) := by decide +kernel
theorem dX5_miss_30 : decode cX5_miss 30 = .ok (.aload_n 0, 1) := by decide +kernel
theorem dX5_miss_31 : decode cX5_miss 31 = .ok (.getfield 19, 3) := by decide +kernel
theorem dX5_miss_34 : decode cX5_miss 34 = .ok (.iload_n 1, 1) := by decide +kernel
theorem dX5_miss_35 : decode cX5_miss 35 = .ok (.iload_n 2, 1) := by decide +kernel
theorem dX5_miss_36 : decode cX5_miss 36 = .ok (.invokevirtual 131, 3) := by decide +kernel
theorem dX5_miss_39 : decode cX5_miss 39 = .ok (.sipush 1000, 3) := by decide +kernel
theorem dX5_miss_42 : decode cX5_miss 42 = .ok (.iadd, 1) := by decide +kernel
theorem dX5_miss_43 : decode cX5_miss 43 = .ok (.ireturn, 1) := by decide +kernel
set_option maxRecDepth 20000 in
theorem ggX5_evened_X5_stationError : GoodIn wsX5_evened wsX5_stationError := goodIn_r _ [8, 2, 9, 10, 11, 12, 13, 14, 15, 16, 17, 18, 19, 20, 21, 22, 23, 24, 25, 26, 27, 28, 29, 30, 7, 31, 118, 119, 120, 121, 122, 123, 124, 125, 126, 131, 132, 133] (by decide +kernel) (by decide +kernel)
set_option maxRecDepth 20000 in
theorem gX5_evened_X5_stationError : GoodIn wsX5_evened (wsV RX5 119 RX5 yX5_stationError wsX5_stationError) := goodIn_app (goodIn_of _ (by decide +kernel)) ggX5_evened_X5_stationError
set_option maxRecDepth 20000 in
theorem ggX5_evened_X0_all : GoodIn wsX5_evened wsX0_all := goodIn_r _ [22, 23, 131, 132, 133] (by decide +kernel) (by decide +kernel)
set_option maxRecDepth 20000 in
theorem gX5_evened_X0_all : GoodIn wsX5_evened (wsV RX5 135 RX0 yX0_all wsX0_all) := goodIn_app (goodIn_of _ (by decide +kernel)) ggX5_evened_X0_all
set_option maxRecDepth 20000 in
theorem ggX5_evened_X3_adjust : GoodIn wsX5_evened wsX3_adjust := goodIn_r _ [37, 38, 39, 40, 41, 25, 26, 12, 27, 28, 42, 43, 44, 45, 23, 46, 47, 48, 49, 50, 51, 52, 53, 30, 7, 31, 54, 55, 56, 36, 57, 58, 59, 60, 61, 62, 63, 64, 65, 66, 67, 68, 69, 70, 71, 72, 73, 74, 75, 76, 77, 78, 79, 80, 81, 82, 83, 84, 85, 86, 87, 88, 89, 90, 91, 92, 93, 94, 95, 96, 97, 98, 99, 100, 101, 102, 103, 104, 105, 106, 127, 128, 129, 130, 131, 132, 133] (by decide +kernel) (by decide +kernel)
set_option maxRecDepth 20000 in
theorem gX5_evened_X3_adjust : GoodIn wsX5_evened (wsV RX5 138 RX3 yX3_adjust wsX3_adjust) := goodIn_app (goodIn_of _ (by decide +kernel)) ggX5_evened_X3_adjust
set_option maxRecDepth 20000 in
theorem ggX5_evened_X3_coordinate : GoodIn wsX5_evened wsX3_coordinate := goodIn_r _ [106, 87, 88, 89, 36, 90, 38, 127, 128, 129, 130] (by decide +kernel) (by decide +kernel)
set_option maxRecDepth 20000 in
theorem gX5_evened_X3_coordinate : GoodIn wsX5_evened (wsV RX5 142 RX3 yX3_coordinate wsX3_coordinate) := goodIn_app (goodIn_of _ (by decide +kernel)) ggX5_evened_X3_coordinate
set_option maxRecDepth 20000 in
theorem ggX5_evened_X5_lowest : GoodIn wsX5_evened wsX5_lowest := goodIn_r _ [110, 111, 112, 113, 114, 115, 116, 7, 117] (by decide +kernel) (by decide +kernel)
set_option maxRecDepth 20000 in
theorem gX5_evened_X5_lowest : GoodIn wsX5_evened (va_wsS RX5 150 yX5_lowest wsX5_lowest) := goodIn_app (goodIn_of _ (by decide +kernel)) ggX5_evened_X5_lowest
theorem dX5_evened_0 : decode cX5_evened 0 = .ok (.aload_n 0, 1) := by decide +kernel
theorem dX5_evened_1 : decode cX5_evened 1 = .ok (.iload_n 1, 1) := by decide +kernel
theorem dX5_evened_2 : decode cX5_evened 2 = .ok (.iload_n 2, 1) := by decide +kernel
theorem dX5_evened_3 : decode cX5_evened 3 = .ok (.invokevirtual 119, 3) := by decide +kernel
theorem dX5_evened_6 : decode cX5_evened 6 = .ok (.istore 4, 2) := by decide +kernel
theorem dX5_evened_8 : decode cX5_evened 8 = .ok (.iload 4, 2) := by decide +kernel
theorem dX5_evened_10 : decode cX5_evened 10 = .ok (.bipush (-9), 2) := by decide +kernel
theorem dX5_evened_12 : decode cX5_evened 12 = .ok (.if_icmp .eq 7, 3) := by decide +kernel
theorem dX5_evened_15 : decode cX5_evened 15 = .ok (.iload 4, 2) := by decide +kernel
theorem dX5_evened_17 : decode cX5_evened 17 = .ok (.i2l, 1) := by decide +kernel
theorem dX5_evened_18 : decode cX5_evened 18 = .ok (.lreturn, 1) := by decide +kernel
theorem dX5_evened_19 : decode cX5_evened 19 = .ok (.aload_n 0, 1) := by decide +kernel
theorem dX5_evened_20 : decode cX5_evened 20 = .ok (.getfield 44, 3) := by decide +kernel
theorem dX5_evened_23 : decode cX5_evened 23 = .ok (.aload_n 0, 1) := by decide +kernel
theorem dX5_evened_24 : decode cX5_evened 24 = .ok (.getfield 19, 3) := by decide +kernel
theorem dX5_evened_27 : decode cX5_evened 27 = .ok (.aload_n 0, 1) := by decide +kernel
theorem dX5_evened_28 : decode cX5_evened 28 = .ok (.getfield 19, 3) := by decide +kernel
theorem dX5_evened_31 : decode cX5_evened 31 = .ok (.invokevirtual 135, 3) := by decide +kernel
theorem dX5_evened_34 : decode cX5_evened 34 = .ok (.invokevirtual 138, 3) := by decide +kernel
theorem dX5_evened_37 : decode cX5_evened 37 = .ok (.aload_n 0, 1) := by decide +kernel
theorem dX5_evened_38 : decode cX5_evened 38 = .ok (.getfield 44, 3) := by decide +kernel
theorem dX5_evened_41 : decode cX5_evened 41 = .ok (.iload_n 1, 1) := by decide +kernel
theorem dX5_evened_42 : decode cX5_evened 42 = .ok (.iload_n 2, 1) := by decide +kernel
theorem dX5_evened_43 : decode cX5_evened 43 = .ok (.invokevirtual 142, 3) := by decide +kernel
theorem dX5_evened_46 : decode cX5_evened 46 = .ok (.aload_n 0, 1) := by decide +kernel
theorem dX5_evened_47 : decode cX5_evened 47 = .ok (.getfield 44, 3) := by decide +kernel
theorem dX5_evened_50 : decode cX5_evened 50 = .ok (.getfield 146, 3) := by decide +kernel
theorem dX5_evened_53 : decode cX5_evened 53 = .ok (.iload_n 3, 1) := by decide +kernel
theorem dX5_evened_54 : decode cX5_evened 54 = .ok (.invokestatic 150, 3) := by decide +kernel
theorem dX5_evened_57 : decode cX5_evened 57 = .ok (.lreturn, 1) := by decide +kernel
set_option maxRecDepth 20000 in
theorem ggX5_rest_X5_legError : GoodIn wsX5_rest wsX5_legError := goodIn_r _ [8, 2, 9, 10, 11, 12, 13, 14, 15, 16, 17, 18, 19, 20, 21, 22, 23, 24, 25, 26, 27, 28, 29, 30, 31, 32, 33, 34, 35, 36, 37, 7, 38, 118, 119, 120, 121, 122, 123, 124, 125, 126, 131, 132, 133] (by decide +kernel) (by decide +kernel)
set_option maxRecDepth 20000 in
theorem gX5_rest_X5_legError : GoodIn wsX5_rest (wsV RX5 128 RX5 yX5_legError wsX5_legError) := goodIn_app (goodIn_of _ (by decide +kernel)) ggX5_rest_X5_legError
set_option maxRecDepth 20000 in
theorem ggX5_rest_X0_all : GoodIn wsX5_rest wsX0_all := goodIn_r _ [22, 14, 131, 132, 133] (by decide +kernel) (by decide +kernel)
set_option maxRecDepth 20000 in
theorem gX5_rest_X0_all : GoodIn wsX5_rest (wsV RX5 135 RX0 yX0_all wsX0_all) := goodIn_app (goodIn_of _ (by decide +kernel)) ggX5_rest_X0_all
set_option maxRecDepth 20000 in
theorem ggX5_rest_X3_adjust : GoodIn wsX5_rest wsX3_adjust := goodIn_r _ [44, 45, 46, 47, 48, 24, 25, 12, 26, 27, 49, 29, 30, 31, 14, 32, 33, 34, 35, 50, 51, 52, 53, 37, 7, 38, 54, 55, 56, 43, 57, 58, 59, 60, 61, 62, 63, 64, 65, 66, 67, 68, 69, 70, 71, 72, 73, 74, 75, 76, 77, 78, 79, 80, 81, 82, 83, 84, 85, 86, 87, 88, 89, 90, 91, 92, 93, 94, 95, 96, 97, 98, 99, 100, 101, 102, 103, 104, 105, 106, 127, 128, 129, 130, 131, 132, 133] (by decide +kernel) (by decide +kernel)
set_option maxRecDepth 20000 in
theorem gX5_rest_X3_adjust : GoodIn wsX5_rest (wsV RX5 138 RX3 yX3_adjust wsX3_adjust) := goodIn_app (goodIn_of _ (by decide +kernel)) ggX5_rest_X3_adjust
set_option maxRecDepth 20000 in
theorem ggX5_rest_X3_residual : GoodIn wsX5_rest wsX3_residual := goodIn_r _ [102, 86, 63, 33, 34, 12, 35, 27, 103, 104, 105, 43, 106, 87, 88, 89, 90, 45, 64, 65, 66, 67, 32, 68, 69, 70, 71, 72, 73, 74, 75, 76, 77, 78, 79, 80, 81, 127, 128, 129, 130, 131, 132, 133] (by decide +kernel) (by decide +kernel)
set_option maxRecDepth 20000 in
theorem gX5_rest_X3_residual : GoodIn wsX5_rest (wsV RX5 154 RX3 yX3_residual wsX3_residual) := goodIn_app (goodIn_of _ (by decide +kernel)) ggX5_rest_X3_residual
set_option maxRecDepth 20000 in
theorem ggX5_rest_X5_lowest : GoodIn wsX5_rest wsX5_lowest := goodIn_r _ [110, 111, 112, 113, 114, 115, 116, 7, 117] (by decide +kernel) (by decide +kernel)
set_option maxRecDepth 20000 in
theorem gX5_rest_X5_lowest : GoodIn wsX5_rest (va_wsS RX5 150 yX5_lowest wsX5_lowest) := goodIn_app (goodIn_of _ (by decide +kernel)) ggX5_rest_X5_lowest
theorem dX5_rest_0 : decode cX5_rest 0 = .ok (.aload_n 0, 1) := by decide +kernel
theorem dX5_rest_1 : decode cX5_rest 1 = .ok (.iload_n 1, 1) := by decide +kernel
theorem dX5_rest_2 : decode cX5_rest 2 = .ok (.iload_n 2, 1) := by decide +kernel
theorem dX5_rest_3 : decode cX5_rest 3 = .ok (.invokevirtual 128, 3) := by decide +kernel
theorem dX5_rest_6 : decode cX5_rest 6 = .ok (.istore 4, 2) := by decide +kernel
theorem dX5_rest_8 : decode cX5_rest 8 = .ok (.iload 4, 2) := by decide +kernel
theorem dX5_rest_10 : decode cX5_rest 10 = .ok (.bipush (-9), 2) := by decide +kernel
theorem dX5_rest_12 : decode cX5_rest 12 = .ok (.if_icmp .eq 7, 3) := by decide +kernel
theorem dX5_rest_15 : decode cX5_rest 15 = .ok (.iload 4, 2) := by decide +kernel
theorem dX5_rest_17 : decode cX5_rest 17 = .ok (.i2l, 1) := by decide +kernel
theorem dX5_rest_18 : decode cX5_rest 18 = .ok (.lreturn, 1) := by decide +kernel
theorem dX5_rest_19 : decode cX5_rest 19 = .ok (.aload_n 0, 1) := by decide +kernel
theorem dX5_rest_20 : decode cX5_rest 20 = .ok (.getfield 44, 3) := by decide +kernel
theorem dX5_rest_23 : decode cX5_rest 23 = .ok (.aload_n 0, 1) := by decide +kernel
theorem dX5_rest_24 : decode cX5_rest 24 = .ok (.getfield 19, 3) := by decide +kernel
theorem dX5_rest_27 : decode cX5_rest 27 = .ok (.aload_n 0, 1) := by decide +kernel
theorem dX5_rest_28 : decode cX5_rest 28 = .ok (.getfield 19, 3) := by decide +kernel
theorem dX5_rest_31 : decode cX5_rest 31 = .ok (.invokevirtual 135, 3) := by decide +kernel
theorem dX5_rest_34 : decode cX5_rest 34 = .ok (.invokevirtual 138, 3) := by decide +kernel
theorem dX5_rest_37 : decode cX5_rest 37 = .ok (.aload_n 0, 1) := by decide +kernel
theorem dX5_rest_38 : decode cX5_rest 38 = .ok (.getfield 44, 3) := by decide +kernel
theorem dX5_rest_41 : decode cX5_rest 41 = .ok (.aload_n 0, 1) := by decide +kernel
theorem dX5_rest_42 : decode cX5_rest 42 = .ok (.getfield 19, 3) := by decide +kernel
theorem dX5_rest_45 : decode cX5_rest 45 = .ok (.iload_n 1, 1) := by decide +kernel
theorem dX5_rest_46 : decode cX5_rest 46 = .ok (.iload_n 2, 1) := by decide +kernel
theorem dX5_rest_47 : decode cX5_rest 47 = .ok (.invokevirtual 154, 3) := by decide +kernel
theorem dX5_rest_50 : decode cX5_rest 50 = .ok (.aload_n 0, 1) := by decide +kernel
theorem dX5_rest_51 : decode cX5_rest 51 = .ok (.getfield 44, 3) := by decide +kernel
theorem dX5_rest_54 : decode cX5_rest 54 = .ok (.getfield 146, 3) := by decide +kernel
theorem dX5_rest_57 : decode cX5_rest 57 = .ok (.iload_n 3, 1) := by decide +kernel
theorem dX5_rest_58 : decode cX5_rest 58 = .ok (.invokestatic 150, 3) := by decide +kernel
theorem dX5_rest_61 : decode cX5_rest 61 = .ok (.lreturn, 1) := by decide +kernel
set_option maxRecDepth 20000 in
theorem ggX5_squares_X0_all : GoodIn wsX5_squares wsX0_all := goodIn_r _ [9, 10, 115, 116, 117] (by decide +kernel) (by decide +kernel)
set_option maxRecDepth 20000 in
theorem gX5_squares_X0_all : GoodIn wsX5_squares (wsV RX5 135 RX0 yX0_all wsX0_all) := goodIn_app (goodIn_of _ (by decide +kernel)) ggX5_squares_X0_all
set_option maxRecDepth 20000 in
theorem ggX5_squares_X3_adjust : GoodIn wsX5_squares wsX3_adjust := goodIn_r _ [15, 16, 17, 18, 19, 20, 21, 8, 22, 23, 24, 25, 26, 27, 10, 28, 29, 30, 31, 32, 33, 34, 35, 36, 37, 38, 39, 40, 41, 14, 42, 43, 44, 45, 46, 47, 48, 49, 50, 51, 52, 53, 54, 55, 56, 57, 58, 59, 60, 61, 62, 63, 64, 65, 66, 67, 68, 69, 70, 71, 72, 73, 74, 75, 76, 77, 78, 79, 80, 81, 82, 83, 84, 85, 86, 87, 88, 89, 90, 91, 111, 112, 113, 114, 115, 116, 117] (by decide +kernel) (by decide +kernel)
set_option maxRecDepth 20000 in
theorem gX5_squares_X3_adjust : GoodIn wsX5_squares (wsV RX5 138 RX3 yX3_adjust wsX3_adjust) := goodIn_app (goodIn_of _ (by decide +kernel)) ggX5_squares_X3_adjust
set_option maxRecDepth 20000 in
theorem ggX5_squares_X5_lowest : GoodIn wsX5_squares wsX5_lowest := goodIn_r _ [94, 95, 96, 97, 98, 99, 100, 37, 101] (by decide +kernel) (by decide +kernel)
set_option maxRecDepth 20000 in
theorem gX5_squares_X5_lowest : GoodIn wsX5_squares (va_wsS RX5 150 yX5_lowest wsX5_lowest) := goodIn_app (goodIn_of _ (by decide +kernel)) ggX5_squares_X5_lowest
theorem dX5_squares_0 : decode cX5_squares 0 = .ok (.aload_n 0, 1) := by decide +kernel
theorem dX5_squares_1 : decode cX5_squares 1 = .ok (.getfield 44, 3) := by decide +kernel
theorem dX5_squares_4 : decode cX5_squares 4 = .ok (.aload_n 0, 1) := by decide +kernel
theorem dX5_squares_5 : decode cX5_squares 5 = .ok (.getfield 19, 3) := by decide +kernel
theorem dX5_squares_8 : decode cX5_squares 8 = .ok (.aload_n 0, 1) := by decide +kernel
theorem dX5_squares_9 : decode cX5_squares 9 = .ok (.getfield 19, 3) := by decide +kernel
theorem dX5_squares_12 : decode cX5_squares 12 = .ok (.invokevirtual 135, 3) := by decide +kernel
theorem dX5_squares_15 : decode cX5_squares 15 = .ok (.invokevirtual 138, 3) := by decide +kernel
theorem dX5_squares_18 : decode cX5_squares 18 = .ok (.aload_n 0, 1) := by decide +kernel
theorem dX5_squares_19 : decode cX5_squares 19 = .ok (.getfield 44, 3) := by decide +kernel
theorem dX5_squares_22 : decode cX5_squares 22 = .ok (.getfield 158, 3) := by decide +kernel
theorem dX5_squares_25 : decode cX5_squares 25 = .ok (.aload_n 0, 1) := by decide +kernel
theorem dX5_squares_26 : decode cX5_squares 26 = .ok (.getfield 44, 3) := by decide +kernel
theorem dX5_squares_29 : decode cX5_squares 29 = .ok (.getfield 146, 3) := by decide +kernel
theorem dX5_squares_32 : decode cX5_squares 32 = .ok (.aload_n 0, 1) := by decide +kernel
theorem dX5_squares_33 : decode cX5_squares 33 = .ok (.getfield 44, 3) := by decide +kernel
theorem dX5_squares_36 : decode cX5_squares 36 = .ok (.getfield 146, 3) := by decide +kernel
theorem dX5_squares_39 : decode cX5_squares 39 = .ok (.lmul, 1) := by decide +kernel
theorem dX5_squares_40 : decode cX5_squares 40 = .ok (.iload_n 1, 1) := by decide +kernel
theorem dX5_squares_41 : decode cX5_squares 41 = .ok (.invokestatic 150, 3) := by decide +kernel
theorem dX5_squares_44 : decode cX5_squares 44 = .ok (.lreturn, 1) := by decide +kernel
set_option maxRecDepth 20000 in
theorem ggX5_ask_X0_connected : GoodIn wsX5_ask wsX0_connected := goodIn_r _ [7, 8, 9, 10, 6, 11, 12, 13, 14, 15, 16, 17, 130, 131, 132] (by decide +kernel) (by decide +kernel)
set_option maxRecDepth 20000 in
theorem gX5_ask_X0_connected : GoodIn wsX5_ask (wsV RX5 161 RX0 yX0_connected wsX0_connected) := goodIn_app (goodIn_of _ (by decide +kernel)) ggX5_ask_X0_connected
set_option maxRecDepth 20000 in
theorem ggX5_ask_X0_loops : GoodIn wsX5_ask wsX0_loops := goodIn_r _ [21, 22, 4, 5, 6, 7, 8, 9, 10, 11, 12, 13, 14, 15, 16, 17, 23, 24, 25, 26, 27, 28, 29, 30, 31, 32, 33, 34, 35, 36, 37, 130, 131, 132] (by decide +kernel) (by decide +kernel)
set_option maxRecDepth 20000 in
theorem gX5_ask_X0_loops : GoodIn wsX5_ask (wsV RX5 164 RX0 yX0_loops wsX0_loops) := goodIn_app (goodIn_of _ (by decide +kernel)) ggX5_ask_X0_loops
set_option maxRecDepth 20000 in
theorem ggX5_ask_X3_blunder : GoodIn wsX5_ask wsX3_blunder := goodIn_r _ [42, 43, 44, 45, 46, 47, 48, 6, 49, 12, 22, 4, 5, 7, 8, 9, 10, 11, 13, 14, 15, 16, 17, 50, 51, 52, 53, 54, 55, 56, 41, 57, 58, 59, 60, 24, 25, 26, 27, 28, 29, 30, 61, 62, 63, 64, 65, 66, 67, 68, 69, 70, 71, 72, 73, 74, 75, 76, 77, 78, 79, 80, 81, 82, 83, 84, 85, 86, 87, 88, 89, 90, 91, 92, 93, 94, 95, 96, 97, 98, 99, 100, 101, 102, 103, 104, 105, 106, 107, 108, 109, 110, 111, 112, 113, 114, 115, 116, 130, 131, 132, 133, 134, 135, 136] (by decide +kernel) (by decide +kernel)
set_option maxRecDepth 20000 in
theorem gX5_ask_X3_blunder : GoodIn wsX5_ask (wsV RX5 167 RX3 yX3_blunder wsX3_blunder) := goodIn_app (goodIn_of _ (by decide +kernel)) ggX5_ask_X3_blunder
set_option maxRecDepth 20000 in
theorem ggX5_ask_X3_menders : GoodIn wsX5_ask wsX3_menders := goodIn_r _ [120, 43, 45, 46, 47, 48, 6, 49, 12, 22, 4, 5, 7, 8, 9, 10, 11, 13, 14, 15, 16, 17, 50, 51, 52, 53, 54, 55, 56, 41, 57, 58, 59, 60, 24, 25, 26, 27, 28, 29, 30, 61, 62, 63, 64, 65, 66, 67, 68, 69, 70, 71, 72, 73, 74, 75, 76, 77, 78, 79, 80, 81, 82, 83, 84, 85, 86, 87, 88, 89, 90, 91, 92, 93, 94, 95, 96, 44, 97, 98, 99, 100, 101, 102, 103, 104, 105, 106, 107, 108, 109, 110, 111, 112, 113, 114, 115, 116, 130, 131, 132, 133, 134, 135, 136] (by decide +kernel) (by decide +kernel)
set_option maxRecDepth 20000 in
theorem gX5_ask_X3_menders : GoodIn wsX5_ask (wsV RX5 171 RX3 yX3_menders wsX3_menders) := goodIn_app (goodIn_of _ (by decide +kernel)) ggX5_ask_X3_menders
theorem dX5_ask_0 : decode cX5_ask 0 = .ok (.iload_n 1, 1) := by decide +kernel
theorem dX5_ask_1 : decode cX5_ask 1 = .ok (.tableswitch 71 0 3 #[31, 39, 47, 59], 31) := by decide +kernel
theorem dX5_ask_32 : decode cX5_ask 32 = .ok (.aload_n 0, 1) := by decide +kernel
theorem dX5_ask_33 : decode cX5_ask 33 = .ok (.getfield 19, 3) := by decide +kernel
theorem dX5_ask_36 : decode cX5_ask 36 = .ok (.invokevirtual 161, 3) := by decide +kernel
theorem dX5_ask_39 : decode cX5_ask 39 = .ok (.ireturn, 1) := by decide +kernel
theorem dX5_ask_40 : decode cX5_ask 40 = .ok (.aload_n 0, 1) := by decide +kernel
theorem dX5_ask_41 : decode cX5_ask 41 = .ok (.getfield 19, 3) := by decide +kernel
theorem dX5_ask_44 : decode cX5_ask 44 = .ok (.invokevirtual 164, 3) := by decide +kernel
theorem dX5_ask_47 : decode cX5_ask 47 = .ok (.ireturn, 1) := by decide +kernel
theorem dX5_ask_48 : decode cX5_ask 48 = .ok (.aload_n 0, 1) := by decide +kernel
theorem dX5_ask_49 : decode cX5_ask 49 = .ok (.getfield 44, 3) := by decide +kernel
theorem dX5_ask_52 : decode cX5_ask 52 = .ok (.aload_n 0, 1) := by decide +kernel
theorem dX5_ask_53 : decode cX5_ask 53 = .ok (.getfield 19, 3) := by decide +kernel
theorem dX5_ask_56 : decode cX5_ask 56 = .ok (.invokevirtual 167, 3) := by decide +kernel
theorem dX5_ask_59 : decode cX5_ask 59 = .ok (.ireturn, 1) := by decide +kernel
theorem dX5_ask_60 : decode cX5_ask 60 = .ok (.aload_n 0, 1) := by decide +kernel
theorem dX5_ask_61 : decode cX5_ask 61 = .ok (.getfield 44, 3) := by decide +kernel
theorem dX5_ask_64 : decode cX5_ask 64 = .ok (.aload_n 0, 1) := by decide +kernel
theorem dX5_ask_65 : decode cX5_ask 65 = .ok (.getfield 19, 3) := by decide +kernel
theorem dX5_ask_68 : decode cX5_ask 68 = .ok (.invokevirtual 171, 3) := by decide +kernel
theorem dX5_ask_71 : decode cX5_ask 71 = .ok (.ireturn, 1) := by decide +kernel
theorem dX5_ask_72 : decode cX5_ask 72 = .ok (.bipush (-2), 2) := by decide +kernel
theorem dX5_ask_74 : decode cX5_ask 74 = .ok (.ireturn, 1) := by decide +kernel
set_option maxRecDepth 20000 in
theorem ggX5_widest_X0_hasStation : GoodIn wsX5_widest wsX0_hasStation := goodIn_r _ [6, 7, 42, 43, 44] (by decide +kernel) (by decide +kernel)
set_option maxRecDepth 20000 in
theorem gX5_widest_X0_hasStation : GoodIn wsX5_widest (wsV RX5 87 RX0 yX0_hasStation wsX0_hasStation) := goodIn_app (goodIn_of _ (by decide +kernel)) ggX5_widest_X0_hasStation
set_option maxRecDepth 20000 in
theorem ggX5_widest_X0_all : GoodIn wsX5_widest wsX0_all := goodIn_r _ [11, 12, 42, 43, 44] (by decide +kernel) (by decide +kernel)
set_option maxRecDepth 20000 in
theorem gX5_widest_X0_all : GoodIn wsX5_widest (wsV RX5 135 RX0 yX0_all wsX0_all) := goodIn_app (goodIn_of _ (by decide +kernel)) ggX5_widest_X0_all
set_option maxRecDepth 20000 in
theorem ggX5_widest_X0_greatestWidth : GoodIn wsX5_widest wsX0_greatestWidth := goodIn_r _ [16, 17, 18, 19, 5, 20, 12, 21, 22, 23, 24, 25, 26, 27, 28, 29, 30, 31, 32, 42, 43, 44] (by decide +kernel) (by decide +kernel)
set_option maxRecDepth 20000 in
theorem gX5_widest_X0_greatestWidth : GoodIn wsX5_widest (wsV RX5 174 RX0 yX0_greatestWidth wsX0_greatestWidth) := goodIn_app (goodIn_of _ (by decide +kernel)) ggX5_widest_X0_greatestWidth
theorem dX5_widest_0 : decode cX5_widest 0 = .ok (.aload_n 0, 1) := by decide +kernel
theorem dX5_widest_1 : decode cX5_widest 1 = .ok (.getfield 19, 3) := by decide +kernel
theorem dX5_widest_4 : decode cX5_widest 4 = .ok (.iload_n 1, 1) := by decide +kernel
theorem dX5_widest_5 : decode cX5_widest 5 = .ok (.invokevirtual 87, 3) := by decide +kernel
theorem dX5_widest_8 : decode cX5_widest 8 = .ok (.ifCond .eq 14, 3) := by decide +kernel
theorem dX5_widest_11 : decode cX5_widest 11 = .ok (.aload_n 0, 1) := by decide +kernel
theorem dX5_widest_12 : decode cX5_widest 12 = .ok (.getfield 19, 3) := by decide +kernel
theorem dX5_widest_15 : decode cX5_widest 15 = .ok (.iload_n 2, 1) := by decide +kernel
theorem dX5_widest_16 : decode cX5_widest 16 = .ok (.invokevirtual 87, 3) := by decide +kernel
theorem dX5_widest_19 : decode cX5_widest 19 = .ok (.ifCond .ne 5, 3) := by decide +kernel
theorem dX5_widest_22 : decode cX5_widest 22 = .ok (.iconst (-1), 1) := by decide +kernel
theorem dX5_widest_23 : decode cX5_widest 23 = .ok (.ireturn, 1) := by decide +kernel
theorem dX5_widest_24 : decode cX5_widest 24 = .ok (.aload_n 0, 1) := by decide +kernel
theorem dX5_widest_25 : decode cX5_widest 25 = .ok (.getfield 19, 3) := by decide +kernel
theorem dX5_widest_28 : decode cX5_widest 28 = .ok (.aload_n 0, 1) := by decide +kernel
theorem dX5_widest_29 : decode cX5_widest 29 = .ok (.getfield 19, 3) := by decide +kernel
theorem dX5_widest_32 : decode cX5_widest 32 = .ok (.invokevirtual 135, 3) := by decide +kernel
theorem dX5_widest_35 : decode cX5_widest 35 = .ok (.iload_n 1, 1) := by decide +kernel
theorem dX5_widest_36 : decode cX5_widest 36 = .ok (.iload_n 2, 1) := by decide +kernel
theorem dX5_widest_37 : decode cX5_widest 37 = .ok (.invokevirtual 174, 3) := by decide +kernel
theorem dX5_widest_40 : decode cX5_widest 40 = .ok (.ireturn, 1) := by decide +kernel
set_option maxRecDepth 20000 in
theorem ggX5_come_X5_isGirth : GoodIn wsX5_come wsX5_isGirth := goodIn_r _ [5] (by decide +kernel) (by decide +kernel)
set_option maxRecDepth 20000 in
theorem gX5_come_X5_isGirth : GoodIn wsX5_come (va_wsS RX5 178 yX5_isGirth wsX5_isGirth) := goodIn_app (goodIn_of _ (by decide +kernel)) ggX5_come_X5_isGirth
set_option maxRecDepth 20000 in
theorem ggX5_come_X0_reached : GoodIn wsX5_come wsX0_reached := goodIn_r _ [10, 11, 12, 13, 9, 14, 15, 16, 17, 18, 19, 20, 21, 22, 23, 24, 34, 35, 36] (by decide +kernel) (by decide +kernel)
set_option maxRecDepth 20000 in
theorem gX5_come_X0_reached : GoodIn wsX5_come (wsV RX5 181 RX0 yX0_reached wsX0_reached) := goodIn_app (goodIn_of _ (by decide +kernel)) ggX5_come_X0_reached
theorem dX5_come_0 : decode cX5_come 0 = .ok (.iload_n 1, 1) := by decide +kernel
theorem dX5_come_1 : decode cX5_come 1 = .ok (.invokestatic 178, 3) := by decide +kernel
theorem dX5_come_4 : decode cX5_come 4 = .ok (.ifCond .eq 14, 3) := by decide +kernel
theorem dX5_come_7 : decode cX5_come 7 = .ok (.aload_n 0, 1) := by decide +kernel
theorem dX5_come_8 : decode cX5_come 8 = .ok (.getfield 19, 3) := by decide +kernel
theorem dX5_come_11 : decode cX5_come 11 = .ok (.iload_n 1, 1) := by decide +kernel
theorem dX5_come_12 : decode cX5_come 12 = .ok (.invokevirtual 181, 3) := by decide +kernel
theorem dX5_come_15 : decode cX5_come 15 = .ok (.goto 5, 3) := by decide +kernel
theorem dX5_come_18 : decode cX5_come 18 = .ok (.bipush (-2), 2) := by decide +kernel
theorem dX5_come_20 : decode cX5_come 20 = .ok (.ireturn, 1) := by decide +kernel
set_option maxRecDepth 20000 in
theorem ggX5_must_X0_hasStation : GoodIn wsX5_must wsX0_hasStation := goodIn_r _ [7, 8, 36, 37, 38] (by decide +kernel) (by decide +kernel)
set_option maxRecDepth 20000 in
theorem gX5_must_X0_hasStation : GoodIn wsX5_must (wsV RX5 87 RX0 yX0_hasStation wsX0_hasStation) := goodIn_app (goodIn_of _ (by decide +kernel)) ggX5_must_X0_hasStation
set_option maxRecDepth 20000 in
theorem ggX5_must_X0_open : GoodIn wsX5_must wsX0_open := goodIn_r _ [12, 13, 14, 15, 16, 6, 17, 18, 36, 37, 38] (by decide +kernel) (by decide +kernel)
set_option maxRecDepth 20000 in
theorem gX5_must_X0_open : GoodIn wsX5_must (wsV RX5 185 RX0 yX0_open wsX0_open) := goodIn_app (goodIn_of _ (by decide +kernel)) ggX5_must_X0_open
set_option maxRecDepth 20000 in
theorem ggX5_must_X0_spread : GoodIn wsX5_must wsX0_spread := goodIn_r _ [22, 18, 36, 37, 38] (by decide +kernel) (by decide +kernel)
set_option maxRecDepth 20000 in
theorem gX5_must_X0_spread : GoodIn wsX5_must (wsV RX5 188 RX0 yX0_spread wsX0_spread) := goodIn_app (goodIn_of _ (by decide +kernel)) ggX5_must_X0_spread
set_option maxRecDepth 20000 in
theorem ggX5_must_X5_holds : GoodIn wsX5_must wsX5_holds := goodIn_r _ [26] (by decide +kernel) (by decide +kernel)
set_option maxRecDepth 20000 in
theorem gX5_must_X5_holds : GoodIn wsX5_must (va_wsS RX5 191 yX5_holds wsX5_holds) := goodIn_app (goodIn_of _ (by decide +kernel)) ggX5_must_X5_holds
theorem dX5_must_0 : decode cX5_must 0 = .ok (.aload_n 0, 1) := by decide +kernel
theorem dX5_must_1 : decode cX5_must 1 = .ok (.getfield 19, 3) := by decide +kernel
theorem dX5_must_4 : decode cX5_must 4 = .ok (.iload_n 1, 1) := by decide +kernel
theorem dX5_must_5 : decode cX5_must 5 = .ok (.invokevirtual 87, 3) := by decide +kernel
theorem dX5_must_8 : decode cX5_must 8 = .ok (.ifCond .ne 5, 3) := by decide +kernel
theorem dX5_must_11 : decode cX5_must 11 = .ok (.iconst (-1), 1) := by decide +kernel
theorem dX5_must_12 : decode cX5_must 12 = .ok (.ireturn, 1) := by decide +kernel
theorem dX5_must_13 : decode cX5_must 13 = .ok (.aload_n 0, 1) := by decide +kernel
theorem dX5_must_14 : decode cX5_must 14 = .ok (.getfield 19, 3) := by decide +kernel
theorem dX5_must_17 : decode cX5_must 17 = .ok (.iconst 1, 1) := by decide +kernel
theorem dX5_must_18 : decode cX5_must 18 = .ok (.invokevirtual 185, 3) := by decide +kernel
theorem dX5_must_21 : decode cX5_must 21 = .ok (.istore_n 2, 1) := by decide +kernel
theorem dX5_must_22 : decode cX5_must 22 = .ok (.aload_n 0, 1) := by decide +kernel
theorem dX5_must_23 : decode cX5_must 23 = .ok (.getfield 19, 3) := by decide +kernel
theorem dX5_must_26 : decode cX5_must 26 = .ok (.iload_n 2, 1) := by decide +kernel
theorem dX5_must_27 : decode cX5_must 27 = .ok (.iconst 1, 1) := by decide +kernel
theorem dX5_must_28 : decode cX5_must 28 = .ok (.invokevirtual 188, 3) := by decide +kernel
theorem dX5_must_31 : decode cX5_must 31 = .ok (.iload_n 1, 1) := by decide +kernel
theorem dX5_must_32 : decode cX5_must 32 = .ok (.invokestatic 191, 3) := by decide +kernel
theorem dX5_must_35 : decode cX5_must 35 = .ok (.ifCond .ne 5, 3) := by decide +kernel
theorem dX5_must_38 : decode cX5_must 38 = .ok (.iconst 0, 1) := by decide +kernel
theorem dX5_must_39 : decode cX5_must 39 = .ok (.ireturn, 1) := by decide +kernel
theorem dX5_must_40 : decode cX5_must 40 = .ok (.iconst 0, 1) := by decide +kernel
theorem dX5_must_41 : decode cX5_must 41 = .ok (.istore_n 3, 1) := by decide +kernel
theorem dX5_must_42 : decode cX5_must 42 = .ok (.iconst 0, 1) := by decide +kernel
theorem dX5_must_43 : decode cX5_must 43 = .ok (.istore 4, 2) := by decide +kernel
theorem dX5_must_45 : decode cX5_must 45 = .ok (.iload 4, 2) := by decide +kernel
theorem dX5_must_47 : decode cX5_must 47 = .ok (.aload_n 0, 1) := by decide +kernel
theorem dX5_must_48 : decode cX5_must 48 = .ok (.getfield 19, 3) := by decide +kernel
theorem dX5_must_51 : decode cX5_must 51 = .ok (.getfield 73, 3) := by decide +kernel
theorem dX5_must_54 : decode cX5_must 54 = .ok (.if_icmp .ge 39, 3) := by decide +kernel
theorem dX5_must_57 : decode cX5_must 57 = .ok (.aload_n 0, 1) := by decide +kernel
theorem dX5_must_58 : decode cX5_must 58 = .ok (.getfield 19, 3) := by decide +kernel
theorem dX5_must_61 : decode cX5_must 61 = .ok (.iload_n 2, 1) := by decide +kernel
theorem dX5_must_62 : decode cX5_must 62 = .ok (.iconst 1, 1) := by decide +kernel
theorem dX5_must_63 : decode cX5_must 63 = .ok (.iload 4, 2) := by decide +kernel
theorem dX5_must_65 : decode cX5_must 65 = .ok (.ishl, 1) := by decide +kernel
theorem dX5_must_66 : decode cX5_must 66 = .ok (.iconst (-1), 1) := by decide +kernel
theorem dX5_must_67 : decode cX5_must 67 = .ok (.ixor, 1) := by decide +kernel
theorem dX5_must_68 : decode cX5_must 68 = .ok (.iand, 1) := by decide +kernel
theorem dX5_must_69 : decode cX5_must 69 = .ok (.iconst 1, 1) := by decide +kernel
theorem dX5_must_70 : decode cX5_must 70 = .ok (.invokevirtual 188, 3) := by decide +kernel
theorem dX5_must_73 : decode cX5_must 73 = .ok (.iload_n 1, 1) := by decide +kernel
theorem dX5_must_74 : decode cX5_must 74 = .ok (.invokestatic 191, 3) := by decide +kernel
theorem dX5_must_77 : decode cX5_must 77 = .ok (.ifCond .ne 10, 3) := by decide +kernel
theorem dX5_must_80 : decode cX5_must 80 = .ok (.iload_n 3, 1) := by decide +kernel
theorem dX5_must_81 : decode cX5_must 81 = .ok (.iconst 1, 1) := by decide +kernel
theorem dX5_must_82 : decode cX5_must 82 = .ok (.iload 4, 2) := by decide +kernel
theorem dX5_must_84 : decode cX5_must 84 = .ok (.ishl, 1) := by decide +kernel
theorem dX5_must_85 : decode cX5_must 85 = .ok (.ior, 1) := by decide +kernel
theorem dX5_must_86 : decode cX5_must 86 = .ok (.istore_n 3, 1) := by decide +kernel
theorem dX5_must_87 : decode cX5_must 87 = .ok (.iinc 4 1, 3) := by decide +kernel
theorem dX5_must_90 : decode cX5_must 90 = .ok (.goto (-45), 3) := by decide +kernel
theorem dX5_must_93 : decode cX5_must 93 = .ok (.iload_n 3, 1) := by decide +kernel
theorem dX5_must_94 : decode cX5_must 94 = .ok (.ireturn, 1) := by decide +kernel
set_option maxRecDepth 20000 in
theorem ggX5_judge_X5_withoutLast : GoodIn wsX5_judge wsX5_withoutLast := goodIn_r _ [7, 3] (by decide +kernel) (by decide +kernel)
set_option maxRecDepth 20000 in
theorem gX5_judge_X5_withoutLast : GoodIn wsX5_judge (va_wsS RX5 194 yX5_withoutLast wsX5_withoutLast) := goodIn_app (goodIn_of _ (by decide +kernel)) ggX5_judge_X5_withoutLast
set_option maxRecDepth 20000 in
theorem ggX5_judge_X0_copy : GoodIn wsX5_judge wsX0_copy := goodIn_r _ [12, 13, 14, 15, 158, 159, 160] (by decide +kernel) (by decide +kernel)
set_option maxRecDepth 20000 in
theorem gX5_judge_X0_copy : GoodIn wsX5_judge (wsV RX5 198 RX0 yX0_copy wsX0_copy) := goodIn_app (goodIn_of _ (by decide +kernel)) ggX5_judge_X0_copy
set_option maxRecDepth 20000 in
theorem ggX5_judge_X5_passes : GoodIn wsX5_judge wsX5_passes := goodIn_r _ [19, 20, 21, 22, 6, 23, 1, 24, 25, 26, 11, 27, 14, 28, 29, 30, 31, 32, 33, 34, 35, 13, 36, 37, 38, 39, 40, 41, 42, 43, 44, 45, 46, 47, 48, 49, 50, 51, 52, 53, 54, 15, 55, 56, 57, 58, 59, 60, 61, 62, 63, 64, 65, 66, 67, 68, 69, 70, 71, 72, 73, 74, 75, 76, 77, 78, 79, 80, 81, 82, 83, 84, 85, 86, 87, 88, 89, 90, 91, 92, 93, 94, 95, 96, 97, 98, 99, 100, 101, 102, 103, 104, 105, 106, 107, 108, 109, 110, 111, 112, 113, 114, 115, 116, 117, 118, 119, 120, 121, 122, 123, 124, 125, 126, 127, 128, 129, 130, 131, 132, 133, 134, 135, 136, 137, 138, 139, 140, 141, 142, 143, 144, 145, 146, 147, 148, 149, 150, 151, 152, 153, 154, 155, 156, 157, 158, 159, 160, 161, 162, 163, 164] (by decide +kernel) (by decide +kernel)
set_option maxRecDepth 20000 in
theorem gX5_judge_X5_passes : GoodIn wsX5_judge (wsV RX5 203 RX5 yX5_passes wsX5_passes) := goodIn_app (goodIn_of _ (by decide +kernel)) ggX5_judge_X5_passes
theorem dX5_judge_0 : decode cX5_judge 0 = .ok (.iload_n 1, 1) := by decide +kernel
theorem dX5_judge_1 : decode cX5_judge 1 = .ok (.iconst 1, 1) := by decide +kernel
theorem dX5_judge_2 : decode cX5_judge 2 = .ok (.if_icmp .lt 24, 3) := by decide +kernel
theorem dX5_judge_5 : decode cX5_judge 5 = .ok (.iload_n 1, 1) := by decide +kernel
theorem dX5_judge_6 : decode cX5_judge 6 = .ok (.iconst 4, 1) := by decide +kernel
theorem dX5_judge_7 : decode cX5_judge 7 = .ok (.if_icmp .gt 19, 3) := by decide +kernel
theorem dX5_judge_10 : decode cX5_judge 10 = .ok (.lload_n 2, 1) := by decide +kernel
theorem dX5_judge_11 : decode cX5_judge 11 = .ok (.lconst 0, 1) := by decide +kernel
theorem dX5_judge_12 : decode cX5_judge 12 = .ok (.lcmp, 1) := by decide +kernel
theorem dX5_judge_13 : decode cX5_judge 13 = .ok (.ifCond .lt 13, 3) := by decide +kernel
theorem dX5_judge_16 : decode cX5_judge 16 = .ok (.lload_n 2, 1) := by decide +kernel
theorem dX5_judge_17 : decode cX5_judge 17 = .ok (.iload_n 1, 1) := by decide +kernel
theorem dX5_judge_18 : decode cX5_judge 18 = .ok (.invokestatic 194, 3) := by decide +kernel
theorem dX5_judge_21 : decode cX5_judge 21 = .ok (.lconst 0, 1) := by decide +kernel
theorem dX5_judge_22 : decode cX5_judge 22 = .ok (.lcmp, 1) := by decide +kernel
theorem dX5_judge_23 : decode cX5_judge 23 = .ok (.ifCond .eq 6, 3) := by decide +kernel
theorem dX5_judge_26 : decode cX5_judge 26 = .ok (.bipush (-2), 2) := by decide +kernel
theorem dX5_judge_28 : decode cX5_judge 28 = .ok (.ireturn, 1) := by decide +kernel
theorem dX5_judge_29 : decode cX5_judge 29 = .ok (.aload_n 0, 1) := by decide +kernel
theorem dX5_judge_30 : decode cX5_judge 30 = .ok (.getfield 48, 3) := by decide +kernel
theorem dX5_judge_33 : decode cX5_judge 33 = .ok (.aload_n 0, 1) := by decide +kernel
theorem dX5_judge_34 : decode cX5_judge 34 = .ok (.getfield 19, 3) := by decide +kernel
theorem dX5_judge_37 : decode cX5_judge 37 = .ok (.invokevirtual 198, 3) := by decide +kernel
theorem dX5_judge_40 : decode cX5_judge 40 = .ok (.iconst 0, 1) := by decide +kernel
theorem dX5_judge_41 : decode cX5_judge 41 = .ok (.istore 4, 2) := by decide +kernel
theorem dX5_judge_43 : decode cX5_judge 43 = .ok (.iload 4, 2) := by decide +kernel
theorem dX5_judge_45 : decode cX5_judge 45 = .ok (.iload_n 1, 1) := by decide +kernel
theorem dX5_judge_46 : decode cX5_judge 46 = .ok (.if_icmp .ge 34, 3) := by decide +kernel
theorem dX5_judge_49 : decode cX5_judge 49 = .ok (.aload_n 0, 1) := by decide +kernel
theorem dX5_judge_50 : decode cX5_judge 50 = .ok (.lload_n 2, 1) := by decide +kernel
theorem dX5_judge_51 : decode cX5_judge 51 = .ok (.iload_n 1, 1) := by decide +kernel
theorem dX5_judge_52 : decode cX5_judge 52 = .ok (.iconst 1, 1) := by decide +kernel
theorem dX5_judge_53 : decode cX5_judge 53 = .ok (.isub, 1) := by decide +kernel
theorem dX5_judge_54 : decode cX5_judge 54 = .ok (.iload 4, 2) := by decide +kernel
theorem dX5_judge_56 : decode cX5_judge 56 = .ok (.isub, 1) := by decide +kernel
theorem dX5_judge_57 : decode cX5_judge 57 = .ok (.invokestatic 194, 3) := by decide +kernel
theorem dX5_judge_60 : decode cX5_judge 60 = .ok (.ldc2_w 201, 3) := by decide +kernel
theorem dX5_judge_63 : decode cX5_judge 63 = .ok (.lrem, 1) := by decide +kernel
theorem dX5_judge_64 : decode cX5_judge 64 = .ok (.l2i, 1) := by decide +kernel
theorem dX5_judge_65 : decode cX5_judge 65 = .ok (.invokevirtual 203, 3) := by decide +kernel
theorem dX5_judge_68 : decode cX5_judge 68 = .ok (.ifCond .ne 6, 3) := by decide +kernel
theorem dX5_judge_71 : decode cX5_judge 71 = .ok (.iload 4, 2) := by decide +kernel
theorem dX5_judge_73 : decode cX5_judge 73 = .ok (.ireturn, 1) := by decide +kernel
theorem dX5_judge_74 : decode cX5_judge 74 = .ok (.iinc 4 1, 3) := by decide +kernel
theorem dX5_judge_77 : decode cX5_judge 77 = .ok (.goto (-34), 3) := by decide +kernel
theorem dX5_judge_80 : decode cX5_judge 80 = .ok (.bipush (-9), 2) := by decide +kernel
theorem dX5_judge_82 : decode cX5_judge 82 = .ok (.ireturn, 1) := by decide +kernel
set_option maxRecDepth 20000 in
theorem ggX5_see_X0_hasStation : GoodIn wsX5_see wsX0_hasStation := goodIn_r _ [8, 9, 28, 29, 30] (by decide +kernel) (by decide +kernel)
set_option maxRecDepth 20000 in
theorem gX5_see_X0_hasStation : GoodIn wsX5_see (wsV RX5 87 RX0 yX0_hasStation wsX0_hasStation) := goodIn_app (goodIn_of _ (by decide +kernel)) ggX5_see_X0_hasStation
set_option maxRecDepth 20000 in
theorem ggX5_see_X2_add : GoodIn wsX5_see wsX2_add := goodIn_r _ [14, 15, 16, 26, 27] (by decide +kernel) (by decide +kernel)
set_option maxRecDepth 20000 in
theorem gX5_see_X2_add : GoodIn wsX5_see (wsV RX5 206 RX2 yX2_add wsX2_add) := goodIn_app (goodIn_of _ (by decide +kernel)) ggX5_see_X2_add
theorem dX5_see_0 : decode cX5_see 0 = .ok (.aload_n 0, 1) := by decide +kernel
theorem dX5_see_1 : decode cX5_see 1 = .ok (.getfield 19, 3) := by decide +kernel
theorem dX5_see_4 : decode cX5_see 4 = .ok (.iload_n 1, 1) := by decide +kernel
theorem dX5_see_5 : decode cX5_see 5 = .ok (.invokevirtual 87, 3) := by decide +kernel
theorem dX5_see_8 : decode cX5_see 8 = .ok (.ifCond .eq 14, 3) := by decide +kernel
theorem dX5_see_11 : decode cX5_see 11 = .ok (.aload_n 0, 1) := by decide +kernel
theorem dX5_see_12 : decode cX5_see 12 = .ok (.getfield 19, 3) := by decide +kernel
theorem dX5_see_15 : decode cX5_see 15 = .ok (.iload_n 2, 1) := by decide +kernel
theorem dX5_see_16 : decode cX5_see 16 = .ok (.invokevirtual 87, 3) := by decide +kernel
theorem dX5_see_19 : decode cX5_see 19 = .ok (.ifCond .ne 5, 3) := by decide +kernel
theorem dX5_see_22 : decode cX5_see 22 = .ok (.iconst (-1), 1) := by decide +kernel
theorem dX5_see_23 : decode cX5_see 23 = .ok (.ireturn, 1) := by decide +kernel
theorem dX5_see_24 : decode cX5_see 24 = .ok (.iload_n 3, 1) := by decide +kernel
theorem dX5_see_25 : decode cX5_see 25 = .ok (.ifCond .lt 20, 3) := by decide +kernel
theorem dX5_see_28 : decode cX5_see 28 = .ok (.iload_n 3, 1) := by decide +kernel
theorem dX5_see_29 : decode cX5_see 29 = .ok (.bipush 10, 2) := by decide +kernel
theorem dX5_see_31 : decode cX5_see 31 = .ok (.if_icmp .gt 14, 3) := by decide +kernel
theorem dX5_see_34 : decode cX5_see 34 = .ok (.iload 4, 2) := by decide +kernel
theorem dX5_see_36 : decode cX5_see 36 = .ok (.ifCond .lt 9, 3) := by decide +kernel
theorem dX5_see_39 : decode cX5_see 39 = .ok (.iload 4, 2) := by decide +kernel
theorem dX5_see_41 : decode cX5_see 41 = .ok (.iconst 1, 1) := by decide +kernel
theorem dX5_see_42 : decode cX5_see 42 = .ok (.if_icmp .le 6, 3) := by decide +kernel
theorem dX5_see_45 : decode cX5_see 45 = .ok (.bipush (-2), 2) := by decide +kernel
theorem dX5_see_47 : decode cX5_see 47 = .ok (.ireturn, 1) := by decide +kernel
theorem dX5_see_48 : decode cX5_see 48 = .ok (.aload_n 0, 1) := by decide +kernel
theorem dX5_see_49 : decode cX5_see 49 = .ok (.getfield 37, 3) := by decide +kernel
theorem dX5_see_52 : decode cX5_see 52 = .ok (.iload_n 1, 1) := by decide +kernel
theorem dX5_see_53 : decode cX5_see 53 = .ok (.iload_n 2, 1) := by decide +kernel
theorem dX5_see_54 : decode cX5_see 54 = .ok (.iload_n 3, 1) := by decide +kernel
theorem dX5_see_55 : decode cX5_see 55 = .ok (.iload 4, 2) := by decide +kernel
theorem dX5_see_57 : decode cX5_see 57 = .ok (.invokevirtual 206, 3) := by decide +kernel
theorem dX5_see_60 : decode cX5_see 60 = .ok (.ifCond .eq 13, 3) := by decide +kernel
theorem dX5_see_63 : decode cX5_see 63 = .ok (.aload_n 0, 1) := by decide +kernel
theorem dX5_see_64 : decode cX5_see 64 = .ok (.getfield 37, 3) := by decide +kernel
theorem dX5_see_67 : decode cX5_see 67 = .ok (.getfield 209, 3) := by decide +kernel
theorem dX5_see_70 : decode cX5_see 70 = .ok (.goto 5, 3) := by decide +kernel
theorem dX5_see_73 : decode cX5_see 73 = .ok (.bipush (-4), 2) := by decide +kernel
theorem dX5_see_75 : decode cX5_see 75 = .ok (.ireturn, 1) := by decide +kernel
theorem dX5_unsee_0 : decode cX5_unsee 0 = .ok (.aload_n 0, 1) := by decide +kernel
theorem dX5_unsee_1 : decode cX5_unsee 1 = .ok (.getfield 37, 3) := by decide +kernel
theorem dX5_unsee_4 : decode cX5_unsee 4 = .ok (.getfield 209, 3) := by decide +kernel
theorem dX5_unsee_7 : decode cX5_unsee 7 = .ok (.istore_n 1, 1) := by decide +kernel
theorem dX5_unsee_8 : decode cX5_unsee 8 = .ok (.aload_n 0, 1) := by decide +kernel
theorem dX5_unsee_9 : decode cX5_unsee 9 = .ok (.getfield 37, 3) := by decide +kernel
theorem dX5_unsee_12 : decode cX5_unsee 12 = .ok (.iconst 0, 1) := by decide +kernel
theorem dX5_unsee_13 : decode cX5_unsee 13 = .ok (.putfield 209, 3) := by decide +kernel
theorem dX5_unsee_16 : decode cX5_unsee 16 = .ok (.iload_n 1, 1) := by decide +kernel
theorem dX5_unsee_17 : decode cX5_unsee 17 = .ok (.ireturn, 1) := by decide +kernel
set_option maxRecDepth 20000 in
theorem ggX5_which_X0_open : GoodIn wsX5_which wsX0_open := goodIn_r _ [8, 9, 10, 11, 12, 7, 13, 14, 49, 50, 51] (by decide +kernel) (by decide +kernel)
set_option maxRecDepth 20000 in
theorem gX5_which_X0_open : GoodIn wsX5_which (wsV RX5 185 RX0 yX0_open wsX0_open) := goodIn_app (goodIn_of _ (by decide +kernel)) ggX5_which_X0_open
set_option maxRecDepth 20000 in
theorem ggX5_which_X5_holds : GoodIn wsX5_which wsX5_holds := goodIn_r _ [18] (by decide +kernel) (by decide +kernel)
set_option maxRecDepth 20000 in
theorem gX5_which_X5_holds : GoodIn wsX5_which (va_wsS RX5 191 yX5_holds wsX5_holds) := goodIn_app (goodIn_of _ (by decide +kernel)) ggX5_which_X5_holds
set_option maxRecDepth 20000 in
theorem ggX5_which_X2_fit : GoodIn wsX5_which wsX2_fit := goodIn_r _ [23, 24, 25, 26, 27, 28, 7, 29, 30, 31, 32, 33, 34, 35, 5, 6, 8, 9, 10, 11, 12, 13, 14, 36, 37, 38, 39, 16, 17, 18, 52, 53, 49, 50, 51] (by decide +kernel) (by decide +kernel)
set_option maxRecDepth 20000 in
theorem gX5_which_X2_fit : GoodIn wsX5_which (wsV RX5 210 RX2 yX2_fit wsX2_fit) := goodIn_app (goodIn_of _ (by decide +kernel)) ggX5_which_X2_fit
theorem dX5_which_0 : decode cX5_which 0 = .ok (.aload_n 0, 1) := by decide +kernel
theorem dX5_which_1 : decode cX5_which 1 = .ok (.getfield 19, 3) := by decide +kernel
theorem dX5_which_4 : decode cX5_which 4 = .ok (.iconst 1, 1) := by decide +kernel
theorem dX5_which_5 : decode cX5_which 5 = .ok (.invokevirtual 185, 3) := by decide +kernel
theorem dX5_which_8 : decode cX5_which 8 = .ok (.istore_n 1, 1) := by decide +kernel
theorem dX5_which_9 : decode cX5_which 9 = .ok (.iconst 0, 1) := by decide +kernel
theorem dX5_which_10 : decode cX5_which 10 = .ok (.istore_n 2, 1) := by decide +kernel
theorem dX5_which_11 : decode cX5_which 11 = .ok (.iconst 0, 1) := by decide +kernel
theorem dX5_which_12 : decode cX5_which 12 = .ok (.istore_n 3, 1) := by decide +kernel
theorem dX5_which_13 : decode cX5_which 13 = .ok (.iload_n 3, 1) := by decide +kernel
theorem dX5_which_14 : decode cX5_which 14 = .ok (.aload_n 0, 1) := by decide +kernel
theorem dX5_which_15 : decode cX5_which 15 = .ok (.getfield 19, 3) := by decide +kernel
theorem dX5_which_18 : decode cX5_which 18 = .ok (.getfield 73, 3) := by decide +kernel
theorem dX5_which_21 : decode cX5_which 21 = .ok (.if_icmp .ge 44, 3) := by decide +kernel
theorem dX5_which_24 : decode cX5_which 24 = .ok (.iload_n 1, 1) := by decide +kernel
theorem dX5_which_25 : decode cX5_which 25 = .ok (.iload_n 3, 1) := by decide +kernel
theorem dX5_which_26 : decode cX5_which 26 = .ok (.invokestatic 191, 3) := by decide +kernel
theorem dX5_which_29 : decode cX5_which 29 = .ok (.ifCond .eq 30, 3) := by decide +kernel
theorem dX5_which_32 : decode cX5_which 32 = .ok (.aload_n 0, 1) := by decide +kernel
theorem dX5_which_33 : decode cX5_which 33 = .ok (.getfield 37, 3) := by decide +kernel
theorem dX5_which_36 : decode cX5_which 36 = .ok (.aload_n 0, 1) := by decide +kernel
theorem dX5_which_37 : decode cX5_which 37 = .ok (.getfield 19, 3) := by decide +kernel
theorem dX5_which_40 : decode cX5_which 40 = .ok (.iload_n 1, 1) := by decide +kernel
theorem dX5_which_41 : decode cX5_which 41 = .ok (.iconst 1, 1) := by decide +kernel
theorem dX5_which_42 : decode cX5_which 42 = .ok (.iload_n 3, 1) := by decide +kernel
theorem dX5_which_43 : decode cX5_which 43 = .ok (.ishl, 1) := by decide +kernel
theorem dX5_which_44 : decode cX5_which 44 = .ok (.iconst (-1), 1) := by decide +kernel
theorem dX5_which_45 : decode cX5_which 45 = .ok (.ixor, 1) := by decide +kernel
theorem dX5_which_46 : decode cX5_which 46 = .ok (.iand, 1) := by decide +kernel
theorem dX5_which_47 : decode cX5_which 47 = .ok (.invokevirtual 210, 3) := by decide +kernel
theorem dX5_which_50 : decode cX5_which 50 = .ok (.ifCond .eq 9, 3) := by decide +kernel
theorem dX5_which_53 : decode cX5_which 53 = .ok (.iload_n 2, 1) := by decide +kernel
theorem dX5_which_54 : decode cX5_which 54 = .ok (.iconst 1, 1) := by decide +kernel
theorem dX5_which_55 : decode cX5_which 55 = .ok (.iload_n 3, 1) := by decide +kernel
theorem dX5_which_56 : decode cX5_which 56 = .ok (.ishl, 1) := by decide +kernel
theorem dX5_which_57 : decode cX5_which 57 = .ok (.ior, 1) := by decide +kernel
theorem dX5_which_58 : decode cX5_which 58 = .ok (.istore_n 2, 1) := by decide +kernel
theorem dX5_which_59 : decode cX5_which 59 = .ok (.iinc 3 1, 3) := by decide +kernel
theorem dX5_which_62 : decode cX5_which 62 = .ok (.goto (-49), 3) := by decide +kernel
theorem dX5_which_65 : decode cX5_which 65 = .ok (.iload_n 2, 1) := by decide +kernel
theorem dX5_which_66 : decode cX5_which 66 = .ok (.ireturn, 1) := by decide +kernel
set_option maxRecDepth 20000 in
theorem ggX5_share_X0_has : GoodIn wsX5_share wsX0_has := goodIn_r _ [6, 7, 56, 57, 58] (by decide +kernel) (by decide +kernel)
set_option maxRecDepth 20000 in
theorem gX5_share_X0_has : GoodIn wsX5_share (wsV RX5 76 RX0 yX0_has wsX0_has) := goodIn_app (goodIn_of _ (by decide +kernel)) ggX5_share_X0_has
set_option maxRecDepth 20000 in
theorem ggX5_share_X0_get : GoodIn wsX5_share wsX0_get := goodIn_r _ [11, 12, 56, 57, 58] (by decide +kernel) (by decide +kernel)
set_option maxRecDepth 20000 in
theorem gX5_share_X0_get : GoodIn wsX5_share (wsV RX5 80 RX0 yX0_get wsX0_get) := goodIn_app (goodIn_of _ (by decide +kernel)) ggX5_share_X0_get
set_option maxRecDepth 20000 in
theorem ggX5_share_X0_open : GoodIn wsX5_share wsX0_open := goodIn_r _ [16, 7, 17, 9, 10, 5, 11, 12, 56, 57, 58] (by decide +kernel) (by decide +kernel)
set_option maxRecDepth 20000 in
theorem gX5_share_X0_open : GoodIn wsX5_share (wsV RX5 185 RX0 yX0_open wsX0_open) := goodIn_app (goodIn_of _ (by decide +kernel)) ggX5_share_X0_open
set_option maxRecDepth 20000 in
theorem ggX5_share_J6_bitCount_0f7a4 : GoodIn wsX5_share wsJ6_bitCount_0f7a4 := goodIn_r _ [21, 22, 23, 24] (by decide +kernel) (by decide +kernel)
set_option maxRecDepth 20000 in
theorem gX5_share_J6_bitCount_0f7a4 : GoodIn wsX5_share (va_wsS RX5 214 yJ6_bitCount_0f7a4 wsJ6_bitCount_0f7a4) := goodIn_app (goodIn_of _ (by decide +kernel)) ggX5_share_J6_bitCount_0f7a4
set_option maxRecDepth 20000 in
theorem ggX5_share_X5_gain : GoodIn wsX5_share wsX5_gain := goodIn_r _ [29, 1, 30, 31, 32, 5, 33, 12, 18, 19, 20, 21, 22, 23, 24, 47, 48, 49, 50, 51, 52, 53, 54, 55, 56, 57, 58] (by decide +kernel) (by decide +kernel)
set_option maxRecDepth 20000 in
theorem gX5_share_X5_gain : GoodIn wsX5_share (wsV RX5 219 RX5 yX5_gain wsX5_gain) := goodIn_app (goodIn_of _ (by decide +kernel)) ggX5_share_X5_gain
set_option maxRecDepth 20000 in
theorem ggX5_share_X5_factorial : GoodIn wsX5_share wsX5_factorial := goodIn_r _ [36] (by decide +kernel) (by decide +kernel)
set_option maxRecDepth 20000 in
theorem gX5_share_X5_factorial : GoodIn wsX5_share (va_wsS RX5 222 yX5_factorial wsX5_factorial) := goodIn_app (goodIn_of _ (by decide +kernel)) ggX5_share_X5_factorial
set_option maxRecDepth 20000 in
theorem ggX5_share_X5_lowest : GoodIn wsX5_share wsX5_lowest := goodIn_r _ [39, 40, 41, 42, 43, 44, 45, 28, 46] (by decide +kernel) (by decide +kernel)
set_option maxRecDepth 20000 in
theorem gX5_share_X5_lowest : GoodIn wsX5_share (va_wsS RX5 150 yX5_lowest wsX5_lowest) := goodIn_app (goodIn_of _ (by decide +kernel)) ggX5_share_X5_lowest
theorem dX5_share_0 : decode cX5_share 0 = .ok (.aload_n 0, 1) := by decide +kernel
theorem dX5_share_1 : decode cX5_share 1 = .ok (.getfield 19, 3) := by decide +kernel
theorem dX5_share_4 : decode cX5_share 4 = .ok (.iload_n 1, 1) := by decide +kernel
theorem dX5_share_5 : decode cX5_share 5 = .ok (.invokevirtual 76, 3) := by decide +kernel
theorem dX5_share_8 : decode cX5_share 8 = .ok (.ifCond .ne 5, 3) := by decide +kernel
theorem dX5_share_11 : decode cX5_share 11 = .ok (.iconst (-1), 1) := by decide +kernel
theorem dX5_share_12 : decode cX5_share 12 = .ok (.ireturn, 1) := by decide +kernel
theorem dX5_share_13 : decode cX5_share 13 = .ok (.aload_n 0, 1) := by decide +kernel
theorem dX5_share_14 : decode cX5_share 14 = .ok (.getfield 19, 3) := by decide +kernel
theorem dX5_share_17 : decode cX5_share 17 = .ok (.iload_n 1, 1) := by decide +kernel
theorem dX5_share_18 : decode cX5_share 18 = .ok (.bipush 6, 2) := by decide +kernel
theorem dX5_share_20 : decode cX5_share 20 = .ok (.invokevirtual 80, 3) := by decide +kernel
theorem dX5_share_23 : decode cX5_share 23 = .ok (.ifCond .eq 6, 3) := by decide +kernel
theorem dX5_share_26 : decode cX5_share 26 = .ok (.bipush (-3), 2) := by decide +kernel
theorem dX5_share_28 : decode cX5_share 28 = .ok (.ireturn, 1) := by decide +kernel
theorem dX5_share_29 : decode cX5_share 29 = .ok (.aload_n 0, 1) := by decide +kernel
theorem dX5_share_30 : decode cX5_share 30 = .ok (.getfield 19, 3) := by decide +kernel
theorem dX5_share_33 : decode cX5_share 33 = .ok (.iconst 1, 1) := by decide +kernel
theorem dX5_share_34 : decode cX5_share 34 = .ok (.invokevirtual 185, 3) := by decide +kernel
theorem dX5_share_37 : decode cX5_share 37 = .ok (.iconst 1, 1) := by decide +kernel
theorem dX5_share_38 : decode cX5_share 38 = .ok (.iload_n 1, 1) := by decide +kernel
theorem dX5_share_39 : decode cX5_share 39 = .ok (.ishl, 1) := by decide +kernel
theorem dX5_share_40 : decode cX5_share 40 = .ok (.iconst (-1), 1) := by decide +kernel
theorem dX5_share_41 : decode cX5_share 41 = .ok (.ixor, 1) := by decide +kernel
theorem dX5_share_42 : decode cX5_share 42 = .ok (.iand, 1) := by decide +kernel
theorem dX5_share_43 : decode cX5_share 43 = .ok (.istore_n 3, 1) := by decide +kernel
theorem dX5_share_44 : decode cX5_share 44 = .ok (.iload_n 3, 1) := by decide +kernel
theorem dX5_share_45 : decode cX5_share 45 = .ok (.invokestatic 214, 3) := by decide +kernel
theorem dX5_share_48 : decode cX5_share 48 = .ok (.istore 4, 2) := by decide +kernel
theorem dX5_share_50 : decode cX5_share 50 = .ok (.iconst 0, 1) := by decide +kernel
theorem dX5_share_51 : decode cX5_share 51 = .ok (.istore 5, 2) := by decide +kernel
theorem dX5_share_53 : decode cX5_share 53 = .ok (.iconst 0, 1) := by decide +kernel
theorem dX5_share_54 : decode cX5_share 54 = .ok (.istore 6, 2) := by decide +kernel
theorem dX5_share_56 : decode cX5_share 56 = .ok (.iload 6, 2) := by decide +kernel
theorem dX5_share_58 : decode cX5_share 58 = .ok (.sipush 256, 3) := by decide +kernel
theorem dX5_share_61 : decode cX5_share 61 = .ok (.if_icmp .ge 52, 3) := by decide +kernel
theorem dX5_share_64 : decode cX5_share 64 = .ok (.iload 6, 2) := by decide +kernel
theorem dX5_share_66 : decode cX5_share 66 = .ok (.iload_n 3, 1) := by decide +kernel
theorem dX5_share_67 : decode cX5_share 67 = .ok (.iconst (-1), 1) := by decide +kernel
theorem dX5_share_68 : decode cX5_share 68 = .ok (.ixor, 1) := by decide +kernel
theorem dX5_share_69 : decode cX5_share 69 = .ok (.iand, 1) := by decide +kernel
theorem dX5_share_70 : decode cX5_share 70 = .ok (.ifCond .ne 37, 3) := by decide +kernel
theorem dX5_share_73 : decode cX5_share 73 = .ok (.iload 6, 2) := by decide +kernel
theorem dX5_share_75 : decode cX5_share 75 = .ok (.invokestatic 214, 3) := by decide +kernel
theorem dX5_share_78 : decode cX5_share 78 = .ok (.istore 7, 2) := by decide +kernel
theorem dX5_share_80 : decode cX5_share 80 = .ok (.iload 5, 2) := by decide +kernel
theorem dX5_share_82 : decode cX5_share 82 = .ok (.aload_n 0, 1) := by decide +kernel
theorem dX5_share_83 : decode cX5_share 83 = .ok (.iload 6, 2) := by decide +kernel
theorem dX5_share_85 : decode cX5_share 85 = .ok (.iload_n 1, 1) := by decide +kernel
theorem dX5_share_86 : decode cX5_share 86 = .ok (.invokevirtual 219, 3) := by decide +kernel
theorem dX5_share_89 : decode cX5_share 89 = .ok (.iload 7, 2) := by decide +kernel
theorem dX5_share_91 : decode cX5_share 91 = .ok (.invokestatic 222, 3) := by decide +kernel
theorem dX5_share_94 : decode cX5_share 94 = .ok (.imul, 1) := by decide +kernel
theorem dX5_share_95 : decode cX5_share 95 = .ok (.iload 4, 2) := by decide +kernel
theorem dX5_share_97 : decode cX5_share 97 = .ok (.iload 7, 2) := by decide +kernel
theorem dX5_share_99 : decode cX5_share 99 = .ok (.isub, 1) := by decide +kernel
theorem dX5_share_100 : decode cX5_share 100 = .ok (.invokestatic 222, 3) := by decide +kernel
theorem dX5_share_103 : decode cX5_share 103 = .ok (.imul, 1) := by decide +kernel
theorem dX5_share_104 : decode cX5_share 104 = .ok (.iadd, 1) := by decide +kernel
theorem dX5_share_105 : decode cX5_share 105 = .ok (.istore 5, 2) := by decide +kernel
theorem dX5_share_107 : decode cX5_share 107 = .ok (.iinc 6 1, 3) := by decide +kernel
theorem dX5_share_110 : decode cX5_share 110 = .ok (.goto (-54), 3) := by decide +kernel
theorem dX5_share_113 : decode cX5_share 113 = .ok (.iload 5, 2) := by decide +kernel
theorem dX5_share_115 : decode cX5_share 115 = .ok (.i2l, 1) := by decide +kernel
theorem dX5_share_116 : decode cX5_share 116 = .ok (.iload 4, 2) := by decide +kernel
theorem dX5_share_118 : decode cX5_share 118 = .ok (.iconst 1, 1) := by decide +kernel
theorem dX5_share_119 : decode cX5_share 119 = .ok (.iadd, 1) := by decide +kernel
theorem dX5_share_120 : decode cX5_share 120 = .ok (.invokestatic 222, 3) := by decide +kernel
theorem dX5_share_123 : decode cX5_share 123 = .ok (.i2l, 1) := by decide +kernel
theorem dX5_share_124 : decode cX5_share 124 = .ok (.iload_n 2, 1) := by decide +kernel
theorem dX5_share_125 : decode cX5_share 125 = .ok (.invokestatic 150, 3) := by decide +kernel
theorem dX5_share_128 : decode cX5_share 128 = .ok (.l2i, 1) := by decide +kernel
theorem dX5_share_129 : decode cX5_share 129 = .ok (.ireturn, 1) := by decide +kernel
set_option maxRecDepth 20000 in
theorem ggX5_falls_X0_hasStation : GoodIn wsX5_falls wsX0_hasStation := goodIn_r _ [6, 7, 58, 59, 60] (by decide +kernel) (by decide +kernel)
set_option maxRecDepth 20000 in
theorem gX5_falls_X0_hasStation : GoodIn wsX5_falls (wsV RX5 87 RX0 yX0_hasStation wsX0_hasStation) := goodIn_app (goodIn_of _ (by decide +kernel)) ggX5_falls_X0_hasStation
set_option maxRecDepth 20000 in
theorem ggX5_falls_X5_isGirth : GoodIn wsX5_falls wsX5_isGirth := goodIn_r _ [11] (by decide +kernel) (by decide +kernel)
set_option maxRecDepth 20000 in
theorem gX5_falls_X5_isGirth : GoodIn wsX5_falls (va_wsS RX5 178 yX5_isGirth wsX5_isGirth) := goodIn_app (goodIn_of _ (by decide +kernel)) ggX5_falls_X5_isGirth
set_option maxRecDepth 20000 in
theorem ggX5_falls_X0_open : GoodIn wsX5_falls wsX0_open := goodIn_r _ [15, 16, 17, 18, 19, 5, 20, 21, 58, 59, 60] (by decide +kernel) (by decide +kernel)
set_option maxRecDepth 20000 in
theorem gX5_falls_X0_open : GoodIn wsX5_falls (wsV RX5 185 RX0 yX0_open wsX0_open) := goodIn_app (goodIn_of _ (by decide +kernel)) ggX5_falls_X0_open
set_option maxRecDepth 20000 in
theorem ggX5_falls_J6_bitCount_0f7a4 : GoodIn wsX5_falls wsJ6_bitCount_0f7a4 := goodIn_r _ [25, 26, 27, 28] (by decide +kernel) (by decide +kernel)
set_option maxRecDepth 20000 in
theorem gX5_falls_J6_bitCount_0f7a4 : GoodIn wsX5_falls (va_wsS RX5 214 yJ6_bitCount_0f7a4 wsJ6_bitCount_0f7a4) := goodIn_app (goodIn_of _ (by decide +kernel)) ggX5_falls_J6_bitCount_0f7a4
set_option maxRecDepth 20000 in
theorem ggX5_falls_X0_spread : GoodIn wsX5_falls wsX0_spread := goodIn_r _ [32, 21, 58, 59, 60] (by decide +kernel) (by decide +kernel)
set_option maxRecDepth 20000 in
theorem gX5_falls_X0_spread : GoodIn wsX5_falls (wsV RX5 188 RX0 yX0_spread wsX0_spread) := goodIn_app (goodIn_of _ (by decide +kernel)) ggX5_falls_X0_spread
set_option maxRecDepth 20000 in
theorem ggX5_falls_X5_holds : GoodIn wsX5_falls wsX5_holds := goodIn_r _ [35] (by decide +kernel) (by decide +kernel)
set_option maxRecDepth 20000 in
theorem gX5_falls_X5_holds : GoodIn wsX5_falls (va_wsS RX5 191 yX5_holds wsX5_holds) := goodIn_app (goodIn_of _ (by decide +kernel)) ggX5_falls_X5_holds
set_option maxRecDepth 20000 in
theorem ggX5_falls_X5_power : GoodIn wsX5_falls wsX5_power := goodIn_r _ [38] (by decide +kernel) (by decide +kernel)
set_option maxRecDepth 20000 in
theorem gX5_falls_X5_power : GoodIn wsX5_falls (va_wsS RX5 225 yX5_power wsX5_power) := goodIn_app (goodIn_of _ (by decide +kernel)) ggX5_falls_X5_power
set_option maxRecDepth 20000 in
theorem ggX5_falls_X5_lowest : GoodIn wsX5_falls wsX5_lowest := goodIn_r _ [41, 42, 43, 44, 45, 46, 47, 10, 48] (by decide +kernel) (by decide +kernel)
set_option maxRecDepth 20000 in
theorem gX5_falls_X5_lowest : GoodIn wsX5_falls (va_wsS RX5 150 yX5_lowest wsX5_lowest) := goodIn_app (goodIn_of _ (by decide +kernel)) ggX5_falls_X5_lowest
theorem dX5_falls_0 : decode cX5_falls 0 = .ok (.aload_n 0, 1) := by decide +kernel
theorem dX5_falls_1 : decode cX5_falls 1 = .ok (.getfield 19, 3) := by decide +kernel
theorem dX5_falls_4 : decode cX5_falls 4 = .ok (.iload_n 1, 1) := by decide +kernel
theorem dX5_falls_5 : decode cX5_falls 5 = .ok (.invokevirtual 87, 3) := by decide +kernel
theorem dX5_falls_8 : decode cX5_falls 8 = .ok (.ifCond .ne 5, 3) := by decide +kernel
theorem dX5_falls_11 : decode cX5_falls 11 = .ok (.iconst (-1), 1) := by decide +kernel
theorem dX5_falls_12 : decode cX5_falls 12 = .ok (.ireturn, 1) := by decide +kernel
theorem dX5_falls_13 : decode cX5_falls 13 = .ok (.iload_n 2, 1) := by decide +kernel
theorem dX5_falls_14 : decode cX5_falls 14 = .ok (.invokestatic 178, 3) := by decide +kernel
theorem dX5_falls_17 : decode cX5_falls 17 = .ok (.ifCond .eq 13, 3) := by decide +kernel
theorem dX5_falls_20 : decode cX5_falls 20 = .ok (.iload_n 3, 1) := by decide +kernel
theorem dX5_falls_21 : decode cX5_falls 21 = .ok (.ifCond .lt 9, 3) := by decide +kernel
theorem dX5_falls_24 : decode cX5_falls 24 = .ok (.iload_n 3, 1) := by decide +kernel
theorem dX5_falls_25 : decode cX5_falls 25 = .ok (.bipush 10, 2) := by decide +kernel
theorem dX5_falls_27 : decode cX5_falls 27 = .ok (.if_icmp .le 6, 3) := by decide +kernel
theorem dX5_falls_30 : decode cX5_falls 30 = .ok (.bipush (-2), 2) := by decide +kernel
theorem dX5_falls_32 : decode cX5_falls 32 = .ok (.ireturn, 1) := by decide +kernel
theorem dX5_falls_33 : decode cX5_falls 33 = .ok (.aload_n 0, 1) := by decide +kernel
theorem dX5_falls_34 : decode cX5_falls 34 = .ok (.getfield 19, 3) := by decide +kernel
theorem dX5_falls_37 : decode cX5_falls 37 = .ok (.iload_n 2, 1) := by decide +kernel
theorem dX5_falls_38 : decode cX5_falls 38 = .ok (.invokevirtual 185, 3) := by decide +kernel
theorem dX5_falls_41 : decode cX5_falls 41 = .ok (.istore 5, 2) := by decide +kernel
theorem dX5_falls_43 : decode cX5_falls 43 = .ok (.iload 5, 2) := by decide +kernel
theorem dX5_falls_45 : decode cX5_falls 45 = .ok (.invokestatic 214, 3) := by decide +kernel
theorem dX5_falls_48 : decode cX5_falls 48 = .ok (.istore 6, 2) := by decide +kernel
theorem dX5_falls_50 : decode cX5_falls 50 = .ok (.iconst 0, 1) := by decide +kernel
theorem dX5_falls_51 : decode cX5_falls 51 = .ok (.istore 7, 2) := by decide +kernel
theorem dX5_falls_53 : decode cX5_falls 53 = .ok (.iconst 0, 1) := by decide +kernel
theorem dX5_falls_54 : decode cX5_falls 54 = .ok (.istore 8, 2) := by decide +kernel
theorem dX5_falls_56 : decode cX5_falls 56 = .ok (.iload 8, 2) := by decide +kernel
theorem dX5_falls_58 : decode cX5_falls 58 = .ok (.sipush 256, 3) := by decide +kernel
theorem dX5_falls_61 : decode cX5_falls 61 = .ok (.if_icmp .ge 67, 3) := by decide +kernel
theorem dX5_falls_64 : decode cX5_falls 64 = .ok (.iload 8, 2) := by decide +kernel
theorem dX5_falls_66 : decode cX5_falls 66 = .ok (.iload 5, 2) := by decide +kernel
theorem dX5_falls_68 : decode cX5_falls 68 = .ok (.iconst (-1), 1) := by decide +kernel
theorem dX5_falls_69 : decode cX5_falls 69 = .ok (.ixor, 1) := by decide +kernel
theorem dX5_falls_70 : decode cX5_falls 70 = .ok (.iand, 1) := by decide +kernel
theorem dX5_falls_71 : decode cX5_falls 71 = .ok (.ifCond .ne 51, 3) := by decide +kernel
theorem dX5_falls_74 : decode cX5_falls 74 = .ok (.aload_n 0, 1) := by decide +kernel
theorem dX5_falls_75 : decode cX5_falls 75 = .ok (.getfield 19, 3) := by decide +kernel
theorem dX5_falls_78 : decode cX5_falls 78 = .ok (.iload 8, 2) := by decide +kernel
theorem dX5_falls_80 : decode cX5_falls 80 = .ok (.iconst 1, 1) := by decide +kernel
theorem dX5_falls_81 : decode cX5_falls 81 = .ok (.invokevirtual 188, 3) := by decide +kernel
theorem dX5_falls_84 : decode cX5_falls 84 = .ok (.iload_n 1, 1) := by decide +kernel
theorem dX5_falls_85 : decode cX5_falls 85 = .ok (.invokestatic 191, 3) := by decide +kernel
theorem dX5_falls_88 : decode cX5_falls 88 = .ok (.ifCond .eq 34, 3) := by decide +kernel
theorem dX5_falls_91 : decode cX5_falls 91 = .ok (.iload 8, 2) := by decide +kernel
theorem dX5_falls_93 : decode cX5_falls 93 = .ok (.invokestatic 214, 3) := by decide +kernel
theorem dX5_falls_96 : decode cX5_falls 96 = .ok (.istore 9, 2) := by decide +kernel
theorem dX5_falls_98 : decode cX5_falls 98 = .ok (.iload 7, 2) := by decide +kernel
theorem dX5_falls_100 : decode cX5_falls 100 = .ok (.bipush 10, 2) := by decide +kernel
theorem dX5_falls_102 : decode cX5_falls 102 = .ok (.iload_n 3, 1) := by decide +kernel
theorem dX5_falls_103 : decode cX5_falls 103 = .ok (.isub, 1) := by decide +kernel
theorem dX5_falls_104 : decode cX5_falls 104 = .ok (.iload 9, 2) := by decide +kernel
theorem dX5_falls_106 : decode cX5_falls 106 = .ok (.invokestatic 225, 3) := by decide +kernel
theorem dX5_falls_109 : decode cX5_falls 109 = .ok (.iload_n 3, 1) := by decide +kernel
theorem dX5_falls_110 : decode cX5_falls 110 = .ok (.iload 6, 2) := by decide +kernel
theorem dX5_falls_112 : decode cX5_falls 112 = .ok (.iload 9, 2) := by decide +kernel
theorem dX5_falls_114 : decode cX5_falls 114 = .ok (.isub, 1) := by decide +kernel
theorem dX5_falls_115 : decode cX5_falls 115 = .ok (.invokestatic 225, 3) := by decide +kernel
theorem dX5_falls_118 : decode cX5_falls 118 = .ok (.imul, 1) := by decide +kernel
theorem dX5_falls_119 : decode cX5_falls 119 = .ok (.iadd, 1) := by decide +kernel
theorem dX5_falls_120 : decode cX5_falls 120 = .ok (.istore 7, 2) := by decide +kernel
theorem dX5_falls_122 : decode cX5_falls 122 = .ok (.iinc 8 1, 3) := by decide +kernel
theorem dX5_falls_125 : decode cX5_falls 125 = .ok (.goto (-69), 3) := by decide +kernel
theorem dX5_falls_128 : decode cX5_falls 128 = .ok (.iload 7, 2) := by decide +kernel
theorem dX5_falls_130 : decode cX5_falls 130 = .ok (.i2l, 1) := by decide +kernel
theorem dX5_falls_131 : decode cX5_falls 131 = .ok (.bipush 10, 2) := by decide +kernel
theorem dX5_falls_133 : decode cX5_falls 133 = .ok (.iload 6, 2) := by decide +kernel
theorem dX5_falls_135 : decode cX5_falls 135 = .ok (.invokestatic 225, 3) := by decide +kernel
theorem dX5_falls_138 : decode cX5_falls 138 = .ok (.i2l, 1) := by decide +kernel
theorem dX5_falls_139 : decode cX5_falls 139 = .ok (.iload 4, 2) := by decide +kernel
theorem dX5_falls_141 : decode cX5_falls 141 = .ok (.invokestatic 150, 3) := by decide +kernel
theorem dX5_falls_144 : decode cX5_falls 144 = .ok (.l2i, 1) := by decide +kernel
theorem dX5_falls_145 : decode cX5_falls 145 = .ok (.ireturn, 1) := by decide +kernel
theorem dX5_seed_0 : decode cX5_seed 0 = .ok (.aload_n 0, 1) := by decide +kernel
theorem dX5_seed_1 : decode cX5_seed 1 = .ok (.getfield 228, 3) := by decide +kernel
theorem dX5_seed_4 : decode cX5_seed 4 = .ok (.lstore_n 3, 1) := by decide +kernel
theorem dX5_seed_5 : decode cX5_seed 5 = .ok (.aload_n 0, 1) := by decide +kernel
theorem dX5_seed_6 : decode cX5_seed 6 = .ok (.lload_n 1, 1) := by decide +kernel
theorem dX5_seed_7 : decode cX5_seed 7 = .ok (.putfield 228, 3) := by decide +kernel
theorem dX5_seed_10 : decode cX5_seed 10 = .ok (.lload_n 3, 1) := by decide +kernel
theorem dX5_seed_11 : decode cX5_seed 11 = .ok (.lreturn, 1) := by decide +kernel
set_option maxRecDepth 20000 in
theorem ggX5_drawn_X5_walked : GoodIn wsX5_drawn wsX5_walked := goodIn_r _ [8, 9, 10, 11, 12, 13, 14, 15, 16, 17, 18, 19, 20, 21, 22, 23, 24, 25, 26, 27, 28] (by decide +kernel) (by decide +kernel)
set_option maxRecDepth 20000 in
theorem gX5_drawn_X5_walked : GoodIn wsX5_drawn (wsV RX5 235 RX5 yX5_walked wsX5_walked) := goodIn_app (goodIn_of _ (by decide +kernel)) ggX5_drawn_X5_walked
theorem dX5_drawn_0 : decode cX5_drawn 0 = .ok (.iload_n 1, 1) := by decide +kernel
theorem dX5_drawn_1 : decode cX5_drawn 1 = .ok (.iconst 1, 1) := by decide +kernel
theorem dX5_drawn_2 : decode cX5_drawn 2 = .ok (.if_icmp .lt 9, 3) := by decide +kernel
theorem dX5_drawn_5 : decode cX5_drawn 5 = .ok (.iload_n 1, 1) := by decide +kernel
theorem dX5_drawn_6 : decode cX5_drawn 6 = .ok (.bipush 40, 2) := by decide +kernel
theorem dX5_drawn_8 : decode cX5_drawn 8 = .ok (.if_icmp .le 6, 3) := by decide +kernel
theorem dX5_drawn_11 : decode cX5_drawn 11 = .ok (.bipush (-2), 2) := by decide +kernel
theorem dX5_drawn_13 : decode cX5_drawn 13 = .ok (.ireturn, 1) := by decide +kernel
theorem dX5_drawn_14 : decode cX5_drawn 14 = .ok (.iconst 0, 1) := by decide +kernel
theorem dX5_drawn_15 : decode cX5_drawn 15 = .ok (.istore_n 2, 1) := by decide +kernel
theorem dX5_drawn_16 : decode cX5_drawn 16 = .ok (.iconst 0, 1) := by decide +kernel
theorem dX5_drawn_17 : decode cX5_drawn 17 = .ok (.istore_n 3, 1) := by decide +kernel
theorem dX5_drawn_18 : decode cX5_drawn 18 = .ok (.iconst 0, 1) := by decide +kernel
theorem dX5_drawn_19 : decode cX5_drawn 19 = .ok (.istore 4, 2) := by decide +kernel
theorem dX5_drawn_21 : decode cX5_drawn 21 = .ok (.iload 4, 2) := by decide +kernel
theorem dX5_drawn_23 : decode cX5_drawn 23 = .ok (.iload_n 1, 1) := by decide +kernel
theorem dX5_drawn_24 : decode cX5_drawn 24 = .ok (.if_icmp .ge 45, 3) := by decide +kernel
theorem dX5_drawn_27 : decode cX5_drawn 27 = .ok (.aload_n 0, 1) := by decide +kernel
theorem dX5_drawn_28 : decode cX5_drawn 28 = .ok (.aload_n 0, 1) := by decide +kernel
theorem dX5_drawn_29 : decode cX5_drawn 29 = .ok (.getfield 228, 3) := by decide +kernel
theorem dX5_drawn_32 : decode cX5_drawn 32 = .ok (.ldc2_w 231, 3) := by decide +kernel
theorem dX5_drawn_35 : decode cX5_drawn 35 = .ok (.lmul, 1) := by decide +kernel
theorem dX5_drawn_36 : decode cX5_drawn 36 = .ok (.ldc2_w 233, 3) := by decide +kernel
theorem dX5_drawn_39 : decode cX5_drawn 39 = .ok (.ladd, 1) := by decide +kernel
theorem dX5_drawn_40 : decode cX5_drawn 40 = .ok (.putfield 228, 3) := by decide +kernel
theorem dX5_drawn_43 : decode cX5_drawn 43 = .ok (.aload_n 0, 1) := by decide +kernel
theorem dX5_drawn_44 : decode cX5_drawn 44 = .ok (.iload_n 2, 1) := by decide +kernel
theorem dX5_drawn_45 : decode cX5_drawn 45 = .ok (.aload_n 0, 1) := by decide +kernel
theorem dX5_drawn_46 : decode cX5_drawn 46 = .ok (.getfield 228, 3) := by decide +kernel
theorem dX5_drawn_49 : decode cX5_drawn 49 = .ok (.bipush 33, 2) := by decide +kernel
theorem dX5_drawn_51 : decode cX5_drawn 51 = .ok (.lushr, 1) := by decide +kernel
theorem dX5_drawn_52 : decode cX5_drawn 52 = .ok (.invokevirtual 235, 3) := by decide +kernel
theorem dX5_drawn_55 : decode cX5_drawn 55 = .ok (.istore_n 2, 1) := by decide +kernel
theorem dX5_drawn_56 : decode cX5_drawn 56 = .ok (.iload_n 2, 1) := by decide +kernel
theorem dX5_drawn_57 : decode cX5_drawn 57 = .ok (.ifCond .eq 6, 3) := by decide +kernel
theorem dX5_drawn_60 : decode cX5_drawn 60 = .ok (.iinc 3 1, 3) := by decide +kernel
theorem dX5_drawn_63 : decode cX5_drawn 63 = .ok (.iinc 4 1, 3) := by decide +kernel
theorem dX5_drawn_66 : decode cX5_drawn 66 = .ok (.goto (-45), 3) := by decide +kernel
theorem dX5_drawn_69 : decode cX5_drawn 69 = .ok (.iload_n 3, 1) := by decide +kernel
theorem dX5_drawn_70 : decode cX5_drawn 70 = .ok (.ireturn, 1) := by decide +kernel
set_option maxRecDepth 20000 in
theorem ggX5_keep_X0_init : GoodIn wsX5_keep wsX0_init := goodIn_r _ [9, 10, 11, 12, 13, 14, 15, 30, 31, 32] (by decide +kernel) (by decide +kernel)
set_option maxRecDepth 20000 in
theorem gX5_keep_X0_init_n18 : GoodIn wsX5_keep (wsX0_init) := ggX5_keep_X0_init
set_option maxRecDepth 20000 in
theorem ggX5_keep_X0_copy : GoodIn wsX5_keep wsX0_copy := goodIn_r _ [19, 14, 20, 15, 30, 31, 32] (by decide +kernel) (by decide +kernel)
set_option maxRecDepth 20000 in
theorem gX5_keep_X0_copy : GoodIn wsX5_keep (wsV RX5 198 RX0 yX0_copy wsX0_copy) := goodIn_app (goodIn_of _ (by decide +kernel)) ggX5_keep_X0_copy
theorem dX5_keep_0 : decode cX5_keep 0 = .ok (.iload_n 1, 1) := by decide +kernel
theorem dX5_keep_1 : decode cX5_keep 1 = .ok (.ifCond .lt 12, 3) := by decide +kernel
theorem dX5_keep_4 : decode cX5_keep 4 = .ok (.iload_n 1, 1) := by decide +kernel
theorem dX5_keep_5 : decode cX5_keep 5 = .ok (.aload_n 0, 1) := by decide +kernel
theorem dX5_keep_6 : decode cX5_keep 6 = .ok (.getfield 30, 3) := by decide +kernel
theorem dX5_keep_9 : decode cX5_keep 9 = .ok (.arraylength, 1) := by decide +kernel
theorem dX5_keep_10 : decode cX5_keep 10 = .ok (.if_icmp .lt 5, 3) := by decide +kernel
theorem dX5_keep_13 : decode cX5_keep 13 = .ok (.iconst (-1), 1) := by decide +kernel
theorem dX5_keep_14 : decode cX5_keep 14 = .ok (.ireturn, 1) := by decide +kernel
theorem dX5_keep_15 : decode cX5_keep 15 = .ok (.aload_n 0, 1) := by decide +kernel
theorem dX5_keep_16 : decode cX5_keep 16 = .ok (.getfield 30, 3) := by decide +kernel
theorem dX5_keep_19 : decode cX5_keep 19 = .ok (.iload_n 1, 1) := by decide +kernel
theorem dX5_keep_20 : decode cX5_keep 20 = .ok (.aaload, 1) := by decide +kernel
theorem dX5_keep_21 : decode cX5_keep 21 = .ok (.ifnonnull 16, 3) := by decide +kernel
theorem dX5_keep_24 : decode cX5_keep 24 = .ok (.aload_n 0, 1) := by decide +kernel
theorem dX5_keep_25 : decode cX5_keep 25 = .ok (.getfield 30, 3) := by decide +kernel
theorem dX5_keep_28 : decode cX5_keep 28 = .ok (.iload_n 1, 1) := by decide +kernel
theorem dX5_keep_29 : decode cX5_keep 29 = .ok (.new 16, 3) := by decide +kernel
theorem dX5_keep_32 : decode cX5_keep 32 = .ok (.dup, 1) := by decide +kernel
theorem dX5_keep_33 : decode cX5_keep 33 = .ok (.invokespecial 18, 3) := by decide +kernel
theorem dX5_keep_36 : decode cX5_keep 36 = .ok (.aastore, 1) := by decide +kernel
theorem dX5_keep_37 : decode cX5_keep 37 = .ok (.aload_n 0, 1) := by decide +kernel
theorem dX5_keep_38 : decode cX5_keep 38 = .ok (.getfield 30, 3) := by decide +kernel
theorem dX5_keep_41 : decode cX5_keep 41 = .ok (.iload_n 1, 1) := by decide +kernel
theorem dX5_keep_42 : decode cX5_keep 42 = .ok (.aaload, 1) := by decide +kernel
theorem dX5_keep_43 : decode cX5_keep 43 = .ok (.aload_n 0, 1) := by decide +kernel
theorem dX5_keep_44 : decode cX5_keep 44 = .ok (.getfield 19, 3) := by decide +kernel
theorem dX5_keep_47 : decode cX5_keep 47 = .ok (.invokevirtual 198, 3) := by decide +kernel
theorem dX5_keep_50 : decode cX5_keep 50 = .ok (.aload_n 0, 1) := by decide +kernel
theorem dX5_keep_51 : decode cX5_keep 51 = .ok (.dup, 1) := by decide +kernel
theorem dX5_keep_52 : decode cX5_keep 52 = .ok (.getfield 70, 3) := by decide +kernel
theorem dX5_keep_55 : decode cX5_keep 55 = .ok (.iconst 1, 1) := by decide +kernel
theorem dX5_keep_56 : decode cX5_keep 56 = .ok (.iload_n 1, 1) := by decide +kernel
theorem dX5_keep_57 : decode cX5_keep 57 = .ok (.ishl, 1) := by decide +kernel
theorem dX5_keep_58 : decode cX5_keep 58 = .ok (.ior, 1) := by decide +kernel
theorem dX5_keep_59 : decode cX5_keep 59 = .ok (.putfield 70, 3) := by decide +kernel
theorem dX5_keep_62 : decode cX5_keep 62 = .ok (.aload_n 0, 1) := by decide +kernel
theorem dX5_keep_63 : decode cX5_keep 63 = .ok (.getfield 19, 3) := by decide +kernel
theorem dX5_keep_66 : decode cX5_keep 66 = .ok (.getfield 73, 3) := by decide +kernel
theorem dX5_keep_69 : decode cX5_keep 69 = .ok (.ireturn, 1) := by decide +kernel
set_option maxRecDepth 20000 in
theorem ggX5_again_X5_holds : GoodIn wsX5_again wsX5_holds := goodIn_r _ [9] (by decide +kernel) (by decide +kernel)
set_option maxRecDepth 20000 in
theorem gX5_again_X5_holds : GoodIn wsX5_again (va_wsS RX5 191 yX5_holds wsX5_holds) := goodIn_app (goodIn_of _ (by decide +kernel)) ggX5_again_X5_holds
set_option maxRecDepth 20000 in
theorem ggX5_again_X0_copy : GoodIn wsX5_again wsX0_copy := goodIn_r _ [14, 15, 16, 17, 33, 34, 35] (by decide +kernel) (by decide +kernel)
set_option maxRecDepth 20000 in
theorem gX5_again_X0_copy : GoodIn wsX5_again (wsV RX5 198 RX0 yX0_copy wsX0_copy) := goodIn_app (goodIn_of _ (by decide +kernel)) ggX5_again_X0_copy
set_option maxRecDepth 20000 in
theorem ggX5_again_X1_forget : GoodIn wsX5_again wsX1_forget := goodIn_r _ [22, 23, 36, 37, 38] (by decide +kernel) (by decide +kernel)
set_option maxRecDepth 20000 in
theorem gX5_again_X1_forget : GoodIn wsX5_again (wsV RX5 67 RX1 yX1_forget wsX1_forget) := goodIn_app (goodIn_of _ (by decide +kernel)) ggX5_again_X1_forget
theorem dX5_again_0 : decode cX5_again 0 = .ok (.iload_n 1, 1) := by decide +kernel
theorem dX5_again_1 : decode cX5_again 1 = .ok (.ifCond .lt 12, 3) := by decide +kernel
theorem dX5_again_4 : decode cX5_again 4 = .ok (.iload_n 1, 1) := by decide +kernel
theorem dX5_again_5 : decode cX5_again 5 = .ok (.aload_n 0, 1) := by decide +kernel
theorem dX5_again_6 : decode cX5_again 6 = .ok (.getfield 30, 3) := by decide +kernel
theorem dX5_again_9 : decode cX5_again 9 = .ok (.arraylength, 1) := by decide +kernel
theorem dX5_again_10 : decode cX5_again 10 = .ok (.if_icmp .lt 5, 3) := by decide +kernel
theorem dX5_again_13 : decode cX5_again 13 = .ok (.iconst (-1), 1) := by decide +kernel
theorem dX5_again_14 : decode cX5_again 14 = .ok (.ireturn, 1) := by decide +kernel
theorem dX5_again_15 : decode cX5_again 15 = .ok (.aload_n 0, 1) := by decide +kernel
theorem dX5_again_16 : decode cX5_again 16 = .ok (.getfield 30, 3) := by decide +kernel
theorem dX5_again_19 : decode cX5_again 19 = .ok (.iload_n 1, 1) := by decide +kernel
theorem dX5_again_20 : decode cX5_again 20 = .ok (.aaload, 1) := by decide +kernel
theorem dX5_again_21 : decode cX5_again 21 = .ok (.astore_n 2, 1) := by decide +kernel
theorem dX5_again_22 : decode cX5_again 22 = .ok (.aload_n 2, 1) := by decide +kernel
theorem dX5_again_23 : decode cX5_again 23 = .ok (.ifnull 14, 3) := by decide +kernel
theorem dX5_again_26 : decode cX5_again 26 = .ok (.aload_n 0, 1) := by decide +kernel
theorem dX5_again_27 : decode cX5_again 27 = .ok (.getfield 70, 3) := by decide +kernel
theorem dX5_again_30 : decode cX5_again 30 = .ok (.iload_n 1, 1) := by decide +kernel
theorem dX5_again_31 : decode cX5_again 31 = .ok (.invokestatic 191, 3) := by decide +kernel
theorem dX5_again_34 : decode cX5_again 34 = .ok (.ifCond .ne 6, 3) := by decide +kernel
theorem dX5_again_37 : decode cX5_again 37 = .ok (.bipush (-3), 2) := by decide +kernel
theorem dX5_again_39 : decode cX5_again 39 = .ok (.ireturn, 1) := by decide +kernel
theorem dX5_again_40 : decode cX5_again 40 = .ok (.aload_n 0, 1) := by decide +kernel
theorem dX5_again_41 : decode cX5_again 41 = .ok (.getfield 19, 3) := by decide +kernel
theorem dX5_again_44 : decode cX5_again 44 = .ok (.aload_n 2, 1) := by decide +kernel
theorem dX5_again_45 : decode cX5_again 45 = .ok (.invokevirtual 198, 3) := by decide +kernel
theorem dX5_again_48 : decode cX5_again 48 = .ok (.aload_n 0, 1) := by decide +kernel
theorem dX5_again_49 : decode cX5_again 49 = .ok (.getfield 26, 3) := by decide +kernel
theorem dX5_again_52 : decode cX5_again 52 = .ok (.invokevirtual 67, 3) := by decide +kernel
theorem dX5_again_55 : decode cX5_again 55 = .ok (.aload_n 0, 1) := by decide +kernel
theorem dX5_again_56 : decode cX5_again 56 = .ok (.getfield 19, 3) := by decide +kernel
theorem dX5_again_59 : decode cX5_again 59 = .ok (.getfield 73, 3) := by decide +kernel
theorem dX5_again_62 : decode cX5_again 62 = .ok (.ireturn, 1) := by decide +kernel
set_option maxRecDepth 20000 in
theorem ggX5_count_X0_all : GoodIn wsX5_count wsX0_all := goodIn_r _ [14, 15, 36, 37, 38] (by decide +kernel) (by decide +kernel)
set_option maxRecDepth 20000 in
theorem gX5_count_X0_all : GoodIn wsX5_count (wsV RX5 135 RX0 yX0_all wsX0_all) := goodIn_app (goodIn_of _ (by decide +kernel)) ggX5_count_X0_all
set_option maxRecDepth 20000 in
theorem ggX5_count_X0_open : GoodIn wsX5_count wsX0_open := goodIn_r _ [19, 15, 20, 21, 22, 13, 23, 24, 36, 37, 38] (by decide +kernel) (by decide +kernel)
set_option maxRecDepth 20000 in
theorem gX5_count_X0_open : GoodIn wsX5_count (wsV RX5 185 RX0 yX0_open wsX0_open) := goodIn_app (goodIn_of _ (by decide +kernel)) ggX5_count_X0_open
theorem dX5_count_0 : decode cX5_count 0 = .ok (.iload_n 1, 1) := by decide +kernel
theorem dX5_count_1 : decode cX5_count 1 = .ok (.tableswitch 98 0 5 #[39, 47, 55, 63, 82, 90], 39) := by decide +kernel
theorem dX5_count_40 : decode cX5_count 40 = .ok (.aload_n 0, 1) := by decide +kernel
theorem dX5_count_41 : decode cX5_count 41 = .ok (.getfield 10, 3) := by decide +kernel
theorem dX5_count_44 : decode cX5_count 44 = .ok (.getfield 55, 3) := by decide +kernel
theorem dX5_count_47 : decode cX5_count 47 = .ok (.ireturn, 1) := by decide +kernel
theorem dX5_count_48 : decode cX5_count 48 = .ok (.aload_n 0, 1) := by decide +kernel
theorem dX5_count_49 : decode cX5_count 49 = .ok (.getfield 19, 3) := by decide +kernel
theorem dX5_count_52 : decode cX5_count 52 = .ok (.getfield 239, 3) := by decide +kernel
theorem dX5_count_55 : decode cX5_count 55 = .ok (.ireturn, 1) := by decide +kernel
theorem dX5_count_56 : decode cX5_count 56 = .ok (.aload_n 0, 1) := by decide +kernel
theorem dX5_count_57 : decode cX5_count 57 = .ok (.getfield 19, 3) := by decide +kernel
theorem dX5_count_60 : decode cX5_count 60 = .ok (.getfield 73, 3) := by decide +kernel
theorem dX5_count_63 : decode cX5_count 63 = .ok (.ireturn, 1) := by decide +kernel
theorem dX5_count_64 : decode cX5_count 64 = .ok (.aload_n 0, 1) := by decide +kernel
theorem dX5_count_65 : decode cX5_count 65 = .ok (.getfield 19, 3) := by decide +kernel
theorem dX5_count_68 : decode cX5_count 68 = .ok (.invokevirtual 135, 3) := by decide +kernel
theorem dX5_count_71 : decode cX5_count 71 = .ok (.aload_n 0, 1) := by decide +kernel
theorem dX5_count_72 : decode cX5_count 72 = .ok (.getfield 19, 3) := by decide +kernel
theorem dX5_count_75 : decode cX5_count 75 = .ok (.iconst 1, 1) := by decide +kernel
theorem dX5_count_76 : decode cX5_count 76 = .ok (.invokevirtual 185, 3) := by decide +kernel
theorem dX5_count_79 : decode cX5_count 79 = .ok (.iconst (-1), 1) := by decide +kernel
theorem dX5_count_80 : decode cX5_count 80 = .ok (.ixor, 1) := by decide +kernel
theorem dX5_count_81 : decode cX5_count 81 = .ok (.iand, 1) := by decide +kernel
theorem dX5_count_82 : decode cX5_count 82 = .ok (.ireturn, 1) := by decide +kernel
theorem dX5_count_83 : decode cX5_count 83 = .ok (.aload_n 0, 1) := by decide +kernel
theorem dX5_count_84 : decode cX5_count 84 = .ok (.getfield 26, 3) := by decide +kernel
theorem dX5_count_87 : decode cX5_count 87 = .ok (.getfield 116, 3) := by decide +kernel
theorem dX5_count_90 : decode cX5_count 90 = .ok (.ireturn, 1) := by decide +kernel
theorem dX5_count_91 : decode cX5_count 91 = .ok (.aload_n 0, 1) := by decide +kernel
theorem dX5_count_92 : decode cX5_count 92 = .ok (.getfield 37, 3) := by decide +kernel
theorem dX5_count_95 : decode cX5_count 95 = .ok (.getfield 209, 3) := by decide +kernel
theorem dX5_count_98 : decode cX5_count 98 = .ok (.ireturn, 1) := by decide +kernel
theorem dX5_count_99 : decode cX5_count 99 = .ok (.bipush (-2), 2) := by decide +kernel
theorem dX5_count_101 : decode cX5_count 101 = .ok (.ireturn, 1) := by decide +kernel
theorem dX5_holds_0 : decode cX5_holds 0 = .ok (.iload_n 1, 1) := by decide +kernel
theorem dX5_holds_1 : decode cX5_holds 1 = .ok (.ifCond .lt 21, 3) := by decide +kernel
theorem dX5_holds_4 : decode cX5_holds 4 = .ok (.iload_n 1, 1) := by decide +kernel
theorem dX5_holds_5 : decode cX5_holds 5 = .ok (.bipush 32, 2) := by decide +kernel
theorem dX5_holds_7 : decode cX5_holds 7 = .ok (.if_icmp .ge 15, 3) := by decide +kernel
theorem dX5_holds_10 : decode cX5_holds 10 = .ok (.iload_n 0, 1) := by decide +kernel
theorem dX5_holds_11 : decode cX5_holds 11 = .ok (.iload_n 1, 1) := by decide +kernel
theorem dX5_holds_12 : decode cX5_holds 12 = .ok (.ishr, 1) := by decide +kernel
theorem dX5_holds_13 : decode cX5_holds 13 = .ok (.iconst 1, 1) := by decide +kernel
theorem dX5_holds_14 : decode cX5_holds 14 = .ok (.iand, 1) := by decide +kernel
theorem dX5_holds_15 : decode cX5_holds 15 = .ok (.ifCond .eq 7, 3) := by decide +kernel
theorem dX5_holds_18 : decode cX5_holds 18 = .ok (.iconst 1, 1) := by decide +kernel
theorem dX5_holds_19 : decode cX5_holds 19 = .ok (.goto 4, 3) := by decide +kernel
theorem dX5_holds_22 : decode cX5_holds 22 = .ok (.iconst 0, 1) := by decide +kernel
theorem dX5_holds_23 : decode cX5_holds 23 = .ok (.ireturn, 1) := by decide +kernel
theorem dX5_isGirth_0 : decode cX5_isGirth 0 = .ok (.iload_n 0, 1) := by decide +kernel
theorem dX5_isGirth_1 : decode cX5_isGirth 1 = .ok (.iconst 1, 1) := by decide +kernel
theorem dX5_isGirth_2 : decode cX5_isGirth 2 = .ok (.if_icmp .lt 13, 3) := by decide +kernel
theorem dX5_isGirth_5 : decode cX5_isGirth 5 = .ok (.iload_n 0, 1) := by decide +kernel
theorem dX5_isGirth_6 : decode cX5_isGirth 6 = .ok (.bipush 9, 2) := by decide +kernel
theorem dX5_isGirth_8 : decode cX5_isGirth 8 = .ok (.if_icmp .gt 7, 3) := by decide +kernel
theorem dX5_isGirth_11 : decode cX5_isGirth 11 = .ok (.iconst 1, 1) := by decide +kernel
theorem dX5_isGirth_12 : decode cX5_isGirth 12 = .ok (.goto 4, 3) := by decide +kernel
theorem dX5_isGirth_15 : decode cX5_isGirth 15 = .ok (.iconst 0, 1) := by decide +kernel
theorem dX5_isGirth_16 : decode cX5_isGirth 16 = .ok (.ireturn, 1) := by decide +kernel
theorem dX5_allows_0 : decode cX5_allows 0 = .ok (.iload_n 0, 1) := by decide +kernel
theorem dX5_allows_1 : decode cX5_allows 1 = .ok (.tableswitch 96 0 3 #[31, 48, 64, 79], 31) := by decide +kernel
theorem dX5_allows_32 : decode cX5_allows 32 = .ok (.iload_n 1, 1) := by decide +kernel
theorem dX5_allows_33 : decode cX5_allows 33 = .ok (.iconst 1, 1) := by decide +kernel
theorem dX5_allows_34 : decode cX5_allows 34 = .ok (.if_icmp .lt 13, 3) := by decide +kernel
theorem dX5_allows_37 : decode cX5_allows 37 = .ok (.iload_n 1, 1) := by decide +kernel
theorem dX5_allows_38 : decode cX5_allows 38 = .ok (.bipush 99, 2) := by decide +kernel
theorem dX5_allows_40 : decode cX5_allows 40 = .ok (.if_icmp .gt 7, 3) := by decide +kernel
theorem dX5_allows_43 : decode cX5_allows 43 = .ok (.iconst 1, 1) := by decide +kernel
theorem dX5_allows_44 : decode cX5_allows 44 = .ok (.goto 4, 3) := by decide +kernel
theorem dX5_allows_47 : decode cX5_allows 47 = .ok (.iconst 0, 1) := by decide +kernel
theorem dX5_allows_48 : decode cX5_allows 48 = .ok (.ireturn, 1) := by decide +kernel
theorem dX5_allows_49 : decode cX5_allows 49 = .ok (.iload_n 1, 1) := by decide +kernel
theorem dX5_allows_50 : decode cX5_allows 50 = .ok (.ifCond .lt 13, 3) := by decide +kernel
theorem dX5_allows_53 : decode cX5_allows 53 = .ok (.iload_n 1, 1) := by decide +kernel
theorem dX5_allows_54 : decode cX5_allows 54 = .ok (.bipush 11, 2) := by decide +kernel
theorem dX5_allows_56 : decode cX5_allows 56 = .ok (.if_icmp .gt 7, 3) := by decide +kernel
theorem dX5_allows_59 : decode cX5_allows 59 = .ok (.iconst 1, 1) := by decide +kernel
theorem dX5_allows_60 : decode cX5_allows 60 = .ok (.goto 4, 3) := by decide +kernel
theorem dX5_allows_63 : decode cX5_allows 63 = .ok (.iconst 0, 1) := by decide +kernel
theorem dX5_allows_64 : decode cX5_allows 64 = .ok (.ireturn, 1) := by decide +kernel
theorem dX5_allows_65 : decode cX5_allows 65 = .ok (.iload_n 1, 1) := by decide +kernel
theorem dX5_allows_66 : decode cX5_allows 66 = .ok (.ifCond .lt 12, 3) := by decide +kernel
theorem dX5_allows_69 : decode cX5_allows 69 = .ok (.iload_n 1, 1) := by decide +kernel
theorem dX5_allows_70 : decode cX5_allows 70 = .ok (.iconst 4, 1) := by decide +kernel
theorem dX5_allows_71 : decode cX5_allows 71 = .ok (.if_icmp .gt 7, 3) := by decide +kernel
theorem dX5_allows_74 : decode cX5_allows 74 = .ok (.iconst 1, 1) := by decide +kernel
theorem dX5_allows_75 : decode cX5_allows 75 = .ok (.goto 4, 3) := by decide +kernel
theorem dX5_allows_78 : decode cX5_allows 78 = .ok (.iconst 0, 1) := by decide +kernel
theorem dX5_allows_79 : decode cX5_allows 79 = .ok (.ireturn, 1) := by decide +kernel
theorem dX5_allows_80 : decode cX5_allows 80 = .ok (.iload_n 1, 1) := by decide +kernel
theorem dX5_allows_81 : decode cX5_allows 81 = .ok (.iconst 1, 1) := by decide +kernel
theorem dX5_allows_82 : decode cX5_allows 82 = .ok (.if_icmp .lt 13, 3) := by decide +kernel
theorem dX5_allows_85 : decode cX5_allows 85 = .ok (.iload_n 1, 1) := by decide +kernel
theorem dX5_allows_86 : decode cX5_allows 86 = .ok (.bipush 9, 2) := by decide +kernel
theorem dX5_allows_88 : decode cX5_allows 88 = .ok (.if_icmp .gt 7, 3) := by decide +kernel
theorem dX5_allows_91 : decode cX5_allows 91 = .ok (.iconst 1, 1) := by decide +kernel
theorem dX5_allows_92 : decode cX5_allows 92 = .ok (.goto 4, 3) := by decide +kernel
theorem dX5_allows_95 : decode cX5_allows 95 = .ok (.iconst 0, 1) := by decide +kernel
theorem dX5_allows_96 : decode cX5_allows 96 = .ok (.ireturn, 1) := by decide +kernel
theorem dX5_allows_97 : decode cX5_allows 97 = .ok (.iconst 0, 1) := by decide +kernel
theorem dX5_allows_98 : decode cX5_allows 98 = .ok (.ireturn, 1) := by decide +kernel
set_option maxRecDepth 20000 in
theorem ggX5_stationError_X0_hasStation : GoodIn wsX5_stationError wsX0_hasStation := goodIn_r _ [6, 7, 35, 36, 37] (by decide +kernel) (by decide +kernel)
set_option maxRecDepth 20000 in
theorem gX5_stationError_X0_hasStation : GoodIn wsX5_stationError (wsV RX5 87 RX0 yX0_hasStation wsX0_hasStation) := goodIn_app (goodIn_of _ (by decide +kernel)) ggX5_stationError_X0_hasStation
set_option maxRecDepth 20000 in
theorem ggX5_stationError_X0_connected : GoodIn wsX5_stationError wsX0_connected := goodIn_r _ [11, 12, 13, 14, 5, 15, 16, 17, 18, 19, 20, 21, 35, 36, 37] (by decide +kernel) (by decide +kernel)
set_option maxRecDepth 20000 in
theorem gX5_stationError_X0_connected : GoodIn wsX5_stationError (wsV RX5 161 RX0 yX0_connected wsX0_connected) := goodIn_app (goodIn_of _ (by decide +kernel)) ggX5_stationError_X0_connected
set_option maxRecDepth 20000 in
theorem ggX5_stationError_X5_holds : GoodIn wsX5_stationError wsX5_holds := goodIn_r _ [25] (by decide +kernel) (by decide +kernel)
set_option maxRecDepth 20000 in
theorem gX5_stationError_X5_holds : GoodIn wsX5_stationError (va_wsS RX5 191 yX5_holds wsX5_holds) := goodIn_app (goodIn_of _ (by decide +kernel)) ggX5_stationError_X5_holds
theorem dX5_stationError_0 : decode cX5_stationError 0 = .ok (.aload_n 0, 1) := by decide +kernel
theorem dX5_stationError_1 : decode cX5_stationError 1 = .ok (.getfield 19, 3) := by decide +kernel
theorem dX5_stationError_4 : decode cX5_stationError 4 = .ok (.iload_n 1, 1) := by decide +kernel
theorem dX5_stationError_5 : decode cX5_stationError 5 = .ok (.invokevirtual 87, 3) := by decide +kernel
theorem dX5_stationError_8 : decode cX5_stationError 8 = .ok (.ifCond .ne 5, 3) := by decide +kernel
theorem dX5_stationError_11 : decode cX5_stationError 11 = .ok (.iconst (-1), 1) := by decide +kernel
theorem dX5_stationError_12 : decode cX5_stationError 12 = .ok (.ireturn, 1) := by decide +kernel
theorem dX5_stationError_13 : decode cX5_stationError 13 = .ok (.iload_n 2, 1) := by decide +kernel
theorem dX5_stationError_14 : decode cX5_stationError 14 = .ok (.ifCond .lt 8, 3) := by decide +kernel
theorem dX5_stationError_17 : decode cX5_stationError 17 = .ok (.iload_n 2, 1) := by decide +kernel
theorem dX5_stationError_18 : decode cX5_stationError 18 = .ok (.iconst 3, 1) := by decide +kernel
theorem dX5_stationError_19 : decode cX5_stationError 19 = .ok (.if_icmp .lt 6, 3) := by decide +kernel
theorem dX5_stationError_22 : decode cX5_stationError 22 = .ok (.bipush (-2), 2) := by decide +kernel
theorem dX5_stationError_24 : decode cX5_stationError 24 = .ok (.ireturn, 1) := by decide +kernel
theorem dX5_stationError_25 : decode cX5_stationError 25 = .ok (.aload_n 0, 1) := by decide +kernel
theorem dX5_stationError_26 : decode cX5_stationError 26 = .ok (.getfield 19, 3) := by decide +kernel
theorem dX5_stationError_29 : decode cX5_stationError 29 = .ok (.invokevirtual 161, 3) := by decide +kernel
theorem dX5_stationError_32 : decode cX5_stationError 32 = .ok (.iload_n 1, 1) := by decide +kernel
theorem dX5_stationError_33 : decode cX5_stationError 33 = .ok (.invokestatic 191, 3) := by decide +kernel
theorem dX5_stationError_36 : decode cX5_stationError 36 = .ok (.ifCond .eq 8, 3) := by decide +kernel
theorem dX5_stationError_39 : decode cX5_stationError 39 = .ok (.bipush (-9), 2) := by decide +kernel
theorem dX5_stationError_41 : decode cX5_stationError 41 = .ok (.goto 5, 3) := by decide +kernel
theorem dX5_stationError_44 : decode cX5_stationError 44 = .ok (.bipush (-3), 2) := by decide +kernel
theorem dX5_stationError_46 : decode cX5_stationError 46 = .ok (.ireturn, 1) := by decide +kernel
set_option maxRecDepth 20000 in
theorem ggX5_legError_X0_has : GoodIn wsX5_legError wsX0_has := goodIn_r _ [6, 7, 42, 43, 44] (by decide +kernel) (by decide +kernel)
set_option maxRecDepth 20000 in
theorem gX5_legError_X0_has : GoodIn wsX5_legError (wsV RX5 76 RX0 yX0_has wsX0_has) := goodIn_app (goodIn_of _ (by decide +kernel)) ggX5_legError_X0_has
set_option maxRecDepth 20000 in
theorem ggX5_legError_X0_connected : GoodIn wsX5_legError wsX0_connected := goodIn_r _ [11, 12, 13, 14, 5, 15, 7, 16, 17, 18, 19, 20, 42, 43, 44] (by decide +kernel) (by decide +kernel)
set_option maxRecDepth 20000 in
theorem gX5_legError_X0_connected : GoodIn wsX5_legError (wsV RX5 161 RX0 yX0_connected wsX0_connected) := goodIn_app (goodIn_of _ (by decide +kernel)) ggX5_legError_X0_connected
set_option maxRecDepth 20000 in
theorem ggX5_legError_X0_touching : GoodIn wsX5_legError wsX0_touching := goodIn_r _ [24, 7, 25, 26, 27, 5, 28, 20, 42, 43, 44] (by decide +kernel) (by decide +kernel)
set_option maxRecDepth 20000 in
theorem gX5_legError_X0_touching : GoodIn wsX5_legError (wsV RX5 242 RX0 yX0_touching wsX0_touching) := goodIn_app (goodIn_of _ (by decide +kernel)) ggX5_legError_X0_touching
set_option maxRecDepth 20000 in
theorem ggX5_legError_X5_holds : GoodIn wsX5_legError wsX5_holds := goodIn_r _ [32] (by decide +kernel) (by decide +kernel)
set_option maxRecDepth 20000 in
theorem gX5_legError_X5_holds : GoodIn wsX5_legError (va_wsS RX5 191 yX5_holds wsX5_holds) := goodIn_app (goodIn_of _ (by decide +kernel)) ggX5_legError_X5_holds
theorem dX5_legError_0 : decode cX5_legError 0 = .ok (.aload_n 0, 1) := by decide +kernel
theorem dX5_legError_1 : decode cX5_legError 1 = .ok (.getfield 19, 3) := by decide +kernel
theorem dX5_legError_4 : decode cX5_legError 4 = .ok (.iload_n 1, 1) := by decide +kernel
theorem dX5_legError_5 : decode cX5_legError 5 = .ok (.invokevirtual 76, 3) := by decide +kernel
theorem dX5_legError_8 : decode cX5_legError 8 = .ok (.ifCond .ne 5, 3) := by decide +kernel
theorem dX5_legError_11 : decode cX5_legError 11 = .ok (.iconst (-1), 1) := by decide +kernel
theorem dX5_legError_12 : decode cX5_legError 12 = .ok (.ireturn, 1) := by decide +kernel
theorem dX5_legError_13 : decode cX5_legError 13 = .ok (.iload_n 2, 1) := by decide +kernel
theorem dX5_legError_14 : decode cX5_legError 14 = .ok (.ifCond .lt 8, 3) := by decide +kernel
theorem dX5_legError_17 : decode cX5_legError 17 = .ok (.iload_n 2, 1) := by decide +kernel
theorem dX5_legError_18 : decode cX5_legError 18 = .ok (.iconst 3, 1) := by decide +kernel
theorem dX5_legError_19 : decode cX5_legError 19 = .ok (.if_icmp .lt 6, 3) := by decide +kernel
theorem dX5_legError_22 : decode cX5_legError 22 = .ok (.bipush (-2), 2) := by decide +kernel
theorem dX5_legError_24 : decode cX5_legError 24 = .ok (.ireturn, 1) := by decide +kernel
theorem dX5_legError_25 : decode cX5_legError 25 = .ok (.aload_n 0, 1) := by decide +kernel
theorem dX5_legError_26 : decode cX5_legError 26 = .ok (.getfield 19, 3) := by decide +kernel
theorem dX5_legError_29 : decode cX5_legError 29 = .ok (.aload_n 0, 1) := by decide +kernel
theorem dX5_legError_30 : decode cX5_legError 30 = .ok (.getfield 19, 3) := by decide +kernel
theorem dX5_legError_33 : decode cX5_legError 33 = .ok (.invokevirtual 161, 3) := by decide +kernel
theorem dX5_legError_36 : decode cX5_legError 36 = .ok (.invokevirtual 242, 3) := by decide +kernel
theorem dX5_legError_39 : decode cX5_legError 39 = .ok (.iload_n 1, 1) := by decide +kernel
theorem dX5_legError_40 : decode cX5_legError 40 = .ok (.invokestatic 191, 3) := by decide +kernel
theorem dX5_legError_43 : decode cX5_legError 43 = .ok (.ifCond .eq 8, 3) := by decide +kernel
theorem dX5_legError_46 : decode cX5_legError 46 = .ok (.bipush (-9), 2) := by decide +kernel
theorem dX5_legError_48 : decode cX5_legError 48 = .ok (.goto 5, 3) := by decide +kernel
theorem dX5_legError_51 : decode cX5_legError 51 = .ok (.bipush (-3), 2) := by decide +kernel
theorem dX5_legError_53 : decode cX5_legError 53 = .ok (.ireturn, 1) := by decide +kernel
theorem dX5_withoutLast_0 : decode cX5_withoutLast 0 = .ok (.lload_n 0, 1) := by decide +kernel
theorem dX5_withoutLast_1 : decode cX5_withoutLast 1 = .ok (.lstore_n 3, 1) := by decide +kernel
theorem dX5_withoutLast_2 : decode cX5_withoutLast 2 = .ok (.iconst 0, 1) := by decide +kernel
theorem dX5_withoutLast_3 : decode cX5_withoutLast 3 = .ok (.istore 5, 2) := by decide +kernel
theorem dX5_withoutLast_5 : decode cX5_withoutLast 5 = .ok (.iload 5, 2) := by decide +kernel
theorem dX5_withoutLast_7 : decode cX5_withoutLast 7 = .ok (.iload_n 2, 1) := by decide +kernel
theorem dX5_withoutLast_8 : decode cX5_withoutLast 8 = .ok (.if_icmp .ge 15, 3) := by decide +kernel
theorem dX5_withoutLast_11 : decode cX5_withoutLast 11 = .ok (.lload_n 3, 1) := by decide +kernel
theorem dX5_withoutLast_12 : decode cX5_withoutLast 12 = .ok (.ldc2_w 201, 3) := by decide +kernel
theorem dX5_withoutLast_15 : decode cX5_withoutLast 15 = .ok (.ldiv, 1) := by decide +kernel
theorem dX5_withoutLast_16 : decode cX5_withoutLast 16 = .ok (.lstore_n 3, 1) := by decide +kernel
theorem dX5_withoutLast_17 : decode cX5_withoutLast 17 = .ok (.iinc 5 1, 3) := by decide +kernel
theorem dX5_withoutLast_20 : decode cX5_withoutLast 20 = .ok (.goto (-15), 3) := by decide +kernel
theorem dX5_withoutLast_23 : decode cX5_withoutLast 23 = .ok (.lload_n 3, 1) := by decide +kernel
theorem dX5_withoutLast_24 : decode cX5_withoutLast 24 = .ok (.lreturn, 1) := by decide +kernel
set_option maxRecDepth 20000 in
theorem ggX5_passes_X5_carriesOut : GoodIn wsX5_passes wsX5_carriesOut := goodIn_r _ [5, 6, 7, 8, 9, 10, 11, 12, 13, 14, 15, 16, 17, 18, 19, 20, 21, 22, 23, 24, 25, 26, 27, 28, 29, 30, 31, 136, 137, 138, 139, 140, 141, 142, 143, 144, 145, 146, 147] (by decide +kernel) (by decide +kernel)
set_option maxRecDepth 20000 in
theorem gX5_passes_X5_carriesOut : GoodIn wsX5_passes (wsV RX5 245 RX5 yX5_carriesOut wsX5_carriesOut) := goodIn_app (goodIn_of _ (by decide +kernel)) ggX5_passes_X5_carriesOut
set_option maxRecDepth 20000 in
theorem ggX5_passes_X5_isTrue : GoodIn wsX5_passes wsX5_isTrue := goodIn_r _ [35, 6, 36, 37, 38, 39, 10, 40, 41, 42, 43, 44, 45, 12, 46, 47, 48, 49, 50, 51, 52, 53, 17, 18, 19, 20, 21, 54, 55, 56, 57, 58, 4, 59, 60, 61, 62, 63, 64, 65, 66, 67, 68, 69, 70, 71, 72, 73, 74, 75, 76, 77, 78, 79, 7, 8, 9, 11, 80, 81, 82, 83, 84, 85, 86, 87, 88, 89, 90, 91, 92, 93, 94, 95, 96, 97, 98, 99, 100, 101, 102, 103, 104, 105, 106, 107, 108, 109, 110, 111, 112, 113, 114, 115, 116, 117, 118, 119, 120, 121, 122, 123, 124, 125, 126, 127, 128, 129, 130, 131, 132, 133, 134, 135, 136, 137, 138, 139, 140, 141, 142, 143, 144, 145, 146, 147, 148, 149, 150, 151] (by decide +kernel) (by decide +kernel)
set_option maxRecDepth 20000 in
theorem gX5_passes_X5_isTrue : GoodIn wsX5_passes (wsV RX5 248 RX5 yX5_isTrue wsX5_isTrue) := goodIn_app (goodIn_of _ (by decide +kernel)) ggX5_passes_X5_isTrue
theorem dX5_passes_0 : decode cX5_passes 0 = .ok (.iload_n 1, 1) := by decide +kernel
theorem dX5_passes_1 : decode cX5_passes 1 = .ok (.sipush 1000, 3) := by decide +kernel
theorem dX5_passes_4 : decode cX5_passes 4 = .ok (.idiv, 1) := by decide +kernel
theorem dX5_passes_5 : decode cX5_passes 5 = .ok (.istore_n 2, 1) := by decide +kernel
theorem dX5_passes_6 : decode cX5_passes 6 = .ok (.iload_n 1, 1) := by decide +kernel
theorem dX5_passes_7 : decode cX5_passes 7 = .ok (.bipush 100, 2) := by decide +kernel
theorem dX5_passes_9 : decode cX5_passes 9 = .ok (.idiv, 1) := by decide +kernel
theorem dX5_passes_10 : decode cX5_passes 10 = .ok (.bipush 10, 2) := by decide +kernel
theorem dX5_passes_12 : decode cX5_passes 12 = .ok (.irem, 1) := by decide +kernel
theorem dX5_passes_13 : decode cX5_passes 13 = .ok (.istore_n 3, 1) := by decide +kernel
theorem dX5_passes_14 : decode cX5_passes 14 = .ok (.iload_n 1, 1) := by decide +kernel
theorem dX5_passes_15 : decode cX5_passes 15 = .ok (.bipush 10, 2) := by decide +kernel
theorem dX5_passes_17 : decode cX5_passes 17 = .ok (.idiv, 1) := by decide +kernel
theorem dX5_passes_18 : decode cX5_passes 18 = .ok (.bipush 10, 2) := by decide +kernel
theorem dX5_passes_20 : decode cX5_passes 20 = .ok (.irem, 1) := by decide +kernel
theorem dX5_passes_21 : decode cX5_passes 21 = .ok (.istore 4, 2) := by decide +kernel
theorem dX5_passes_23 : decode cX5_passes 23 = .ok (.iload_n 1, 1) := by decide +kernel
theorem dX5_passes_24 : decode cX5_passes 24 = .ok (.bipush 10, 2) := by decide +kernel
theorem dX5_passes_26 : decode cX5_passes 26 = .ok (.irem, 1) := by decide +kernel
theorem dX5_passes_27 : decode cX5_passes 27 = .ok (.istore 5, 2) := by decide +kernel
theorem dX5_passes_29 : decode cX5_passes 29 = .ok (.iload_n 2, 1) := by decide +kernel
theorem dX5_passes_30 : decode cX5_passes 30 = .ok (.iconst 3, 1) := by decide +kernel
theorem dX5_passes_31 : decode cX5_passes 31 = .ok (.if_icmp .gt 16, 3) := by decide +kernel
theorem dX5_passes_34 : decode cX5_passes 34 = .ok (.aload_n 0, 1) := by decide +kernel
theorem dX5_passes_35 : decode cX5_passes 35 = .ok (.iload_n 2, 1) := by decide +kernel
theorem dX5_passes_36 : decode cX5_passes 36 = .ok (.iload_n 3, 1) := by decide +kernel
theorem dX5_passes_37 : decode cX5_passes 37 = .ok (.iload 4, 2) := by decide +kernel
theorem dX5_passes_39 : decode cX5_passes 39 = .ok (.iload 5, 2) := by decide +kernel
theorem dX5_passes_41 : decode cX5_passes 41 = .ok (.invokevirtual 245, 3) := by decide +kernel
theorem dX5_passes_44 : decode cX5_passes 44 = .ok (.goto 13, 3) := by decide +kernel
theorem dX5_passes_47 : decode cX5_passes 47 = .ok (.aload_n 0, 1) := by decide +kernel
theorem dX5_passes_48 : decode cX5_passes 48 = .ok (.iload_n 2, 1) := by decide +kernel
theorem dX5_passes_49 : decode cX5_passes 49 = .ok (.iload_n 3, 1) := by decide +kernel
theorem dX5_passes_50 : decode cX5_passes 50 = .ok (.iload 4, 2) := by decide +kernel
theorem dX5_passes_52 : decode cX5_passes 52 = .ok (.iload 5, 2) := by decide +kernel
theorem dX5_passes_54 : decode cX5_passes 54 = .ok (.invokevirtual 248, 3) := by decide +kernel
theorem dX5_passes_57 : decode cX5_passes 57 = .ok (.ireturn, 1) := by decide +kernel
set_option maxRecDepth 20000 in
theorem ggX5_carriesOut_X0_has : GoodIn wsX5_carriesOut wsX0_has := goodIn_r _ [6, 7, 36, 37, 38] (by decide +kernel) (by decide +kernel)
set_option maxRecDepth 20000 in
theorem gX5_carriesOut_X0_has : GoodIn wsX5_carriesOut (wsV RX5 76 RX0 yX0_has wsX0_has) := goodIn_app (goodIn_of _ (by decide +kernel)) ggX5_carriesOut_X0_has
set_option maxRecDepth 20000 in
theorem ggX5_carriesOut_X0_turn : GoodIn wsX5_carriesOut wsX0_turn := goodIn_r _ [11, 12, 13, 14, 5, 15, 16, 17, 18, 19, 20, 36, 37, 38] (by decide +kernel) (by decide +kernel)
set_option maxRecDepth 20000 in
theorem gX5_carriesOut_X0_turn : GoodIn wsX5_carriesOut (wsV RX5 109 RX0 yX0_turn wsX0_turn) := goodIn_app (goodIn_of _ (by decide +kernel)) ggX5_carriesOut_X0_turn
set_option maxRecDepth 20000 in
theorem ggX5_carriesOut_X0_remove : GoodIn wsX5_carriesOut wsX0_remove := goodIn_r _ [24, 16, 7, 25, 3, 4, 5, 6, 36, 37, 38] (by decide +kernel) (by decide +kernel)
set_option maxRecDepth 20000 in
theorem gX5_carriesOut_X0_remove : GoodIn wsX5_carriesOut (wsV RX5 101 RX0 yX0_remove wsX0_remove) := goodIn_app (goodIn_of _ (by decide +kernel)) ggX5_carriesOut_X0_remove
set_option maxRecDepth 20000 in
theorem ggX5_carriesOut_X0_put : GoodIn wsX5_carriesOut wsX0_put := goodIn_r _ [20, 16, 36, 37, 38] (by decide +kernel) (by decide +kernel)
set_option maxRecDepth 20000 in
theorem gX5_carriesOut_X0_put : GoodIn wsX5_carriesOut (wsV RX5 105 RX0 yX0_put wsX0_put) := goodIn_app (goodIn_of _ (by decide +kernel)) ggX5_carriesOut_X0_put
theorem dX5_carriesOut_0 : decode cX5_carriesOut 0 = .ok (.bipush 10, 2) := by decide +kernel
theorem dX5_carriesOut_2 : decode cX5_carriesOut 2 = .ok (.iload_n 3, 1) := by decide +kernel
theorem dX5_carriesOut_3 : decode cX5_carriesOut 3 = .ok (.imul, 1) := by decide +kernel
theorem dX5_carriesOut_4 : decode cX5_carriesOut 4 = .ok (.iload 4, 2) := by decide +kernel
theorem dX5_carriesOut_6 : decode cX5_carriesOut 6 = .ok (.iadd, 1) := by decide +kernel
theorem dX5_carriesOut_7 : decode cX5_carriesOut 7 = .ok (.istore 5, 2) := by decide +kernel
theorem dX5_carriesOut_9 : decode cX5_carriesOut 9 = .ok (.aload_n 0, 1) := by decide +kernel
theorem dX5_carriesOut_10 : decode cX5_carriesOut 10 = .ok (.getfield 48, 3) := by decide +kernel
theorem dX5_carriesOut_13 : decode cX5_carriesOut 13 = .ok (.iload_n 2, 1) := by decide +kernel
theorem dX5_carriesOut_14 : decode cX5_carriesOut 14 = .ok (.invokevirtual 76, 3) := by decide +kernel
theorem dX5_carriesOut_17 : decode cX5_carriesOut 17 = .ok (.ifCond .eq 26, 3) := by decide +kernel
theorem dX5_carriesOut_20 : decode cX5_carriesOut 20 = .ok (.iload_n 1, 1) := by decide +kernel
theorem dX5_carriesOut_21 : decode cX5_carriesOut 21 = .ok (.iconst 3, 1) := by decide +kernel
theorem dX5_carriesOut_22 : decode cX5_carriesOut 22 = .ok (.if_icmp .ne 7, 3) := by decide +kernel
theorem dX5_carriesOut_25 : decode cX5_carriesOut 25 = .ok (.iconst 1, 1) := by decide +kernel
theorem dX5_carriesOut_26 : decode cX5_carriesOut 26 = .ok (.goto 4, 3) := by decide +kernel
theorem dX5_carriesOut_29 : decode cX5_carriesOut 29 = .ok (.iconst 0, 1) := by decide +kernel
theorem dX5_carriesOut_30 : decode cX5_carriesOut 30 = .ok (.iload 5, 2) := by decide +kernel
theorem dX5_carriesOut_32 : decode cX5_carriesOut 32 = .ok (.ifCond .le 7, 3) := by decide +kernel
theorem dX5_carriesOut_35 : decode cX5_carriesOut 35 = .ok (.iconst 1, 1) := by decide +kernel
theorem dX5_carriesOut_36 : decode cX5_carriesOut 36 = .ok (.goto 4, 3) := by decide +kernel
theorem dX5_carriesOut_39 : decode cX5_carriesOut 39 = .ok (.iconst 0, 1) := by decide +kernel
theorem dX5_carriesOut_40 : decode cX5_carriesOut 40 = .ok (.if_icmp .eq 5, 3) := by decide +kernel
theorem dX5_carriesOut_43 : decode cX5_carriesOut 43 = .ok (.iconst 0, 1) := by decide +kernel
theorem dX5_carriesOut_44 : decode cX5_carriesOut 44 = .ok (.ireturn, 1) := by decide +kernel
theorem dX5_carriesOut_45 : decode cX5_carriesOut 45 = .ok (.iload_n 1, 1) := by decide +kernel
theorem dX5_carriesOut_46 : decode cX5_carriesOut 46 = .ok (.tableswitch 59 1 3 #[26, 36, 46], 26) := by decide +kernel
theorem dX5_carriesOut_72 : decode cX5_carriesOut 72 = .ok (.aload_n 0, 1) := by decide +kernel
theorem dX5_carriesOut_73 : decode cX5_carriesOut 73 = .ok (.getfield 48, 3) := by decide +kernel
theorem dX5_carriesOut_76 : decode cX5_carriesOut 76 = .ok (.iload_n 2, 1) := by decide +kernel
theorem dX5_carriesOut_77 : decode cX5_carriesOut 77 = .ok (.invokevirtual 109, 3) := by decide +kernel
theorem dX5_carriesOut_80 : decode cX5_carriesOut 80 = .ok (.iconst 1, 1) := by decide +kernel
theorem dX5_carriesOut_81 : decode cX5_carriesOut 81 = .ok (.ireturn, 1) := by decide +kernel
theorem dX5_carriesOut_82 : decode cX5_carriesOut 82 = .ok (.aload_n 0, 1) := by decide +kernel
theorem dX5_carriesOut_83 : decode cX5_carriesOut 83 = .ok (.getfield 48, 3) := by decide +kernel
theorem dX5_carriesOut_86 : decode cX5_carriesOut 86 = .ok (.iload_n 2, 1) := by decide +kernel
theorem dX5_carriesOut_87 : decode cX5_carriesOut 87 = .ok (.invokevirtual 101, 3) := by decide +kernel
theorem dX5_carriesOut_90 : decode cX5_carriesOut 90 = .ok (.iconst 1, 1) := by decide +kernel
theorem dX5_carriesOut_91 : decode cX5_carriesOut 91 = .ok (.ireturn, 1) := by decide +kernel
theorem dX5_carriesOut_92 : decode cX5_carriesOut 92 = .ok (.aload_n 0, 1) := by decide +kernel
theorem dX5_carriesOut_93 : decode cX5_carriesOut 93 = .ok (.getfield 48, 3) := by decide +kernel
theorem dX5_carriesOut_96 : decode cX5_carriesOut 96 = .ok (.iload_n 2, 1) := by decide +kernel
theorem dX5_carriesOut_97 : decode cX5_carriesOut 97 = .ok (.iconst 0, 1) := by decide +kernel
theorem dX5_carriesOut_98 : decode cX5_carriesOut 98 = .ok (.iload 5, 2) := by decide +kernel
theorem dX5_carriesOut_100 : decode cX5_carriesOut 100 = .ok (.invokevirtual 105, 3) := by decide +kernel
theorem dX5_carriesOut_103 : decode cX5_carriesOut 103 = .ok (.iconst 1, 1) := by decide +kernel
theorem dX5_carriesOut_104 : decode cX5_carriesOut 104 = .ok (.ireturn, 1) := by decide +kernel
theorem dX5_carriesOut_105 : decode cX5_carriesOut 105 = .ok (.iconst 0, 1) := by decide +kernel
theorem dX5_carriesOut_106 : decode cX5_carriesOut 106 = .ok (.ireturn, 1) := by decide +kernel
set_option maxRecDepth 20000 in
theorem ggX5_isTrue_X0_hasStation : GoodIn wsX5_isTrue wsX0_hasStation := goodIn_r _ [7, 8, 123, 124, 125] (by decide +kernel) (by decide +kernel)
set_option maxRecDepth 20000 in
theorem gX5_isTrue_X0_hasStation : GoodIn wsX5_isTrue (wsV RX5 87 RX0 yX0_hasStation wsX0_hasStation) := goodIn_app (goodIn_of _ (by decide +kernel)) ggX5_isTrue_X0_hasStation
set_option maxRecDepth 20000 in
theorem ggX5_isTrue_X0_all : GoodIn wsX5_isTrue wsX0_all := goodIn_r _ [12, 13, 123, 124, 125] (by decide +kernel) (by decide +kernel)
set_option maxRecDepth 20000 in
theorem gX5_isTrue_X0_all : GoodIn wsX5_isTrue (wsV RX5 135 RX0 yX0_all wsX0_all) := goodIn_app (goodIn_of _ (by decide +kernel)) ggX5_isTrue_X0_all
set_option maxRecDepth 20000 in
theorem ggX5_isTrue_X0_greatestWidth : GoodIn wsX5_isTrue wsX0_greatestWidth := goodIn_r _ [17, 18, 19, 20, 6, 21, 13, 22, 23, 24, 25, 26, 27, 28, 29, 30, 31, 32, 33, 123, 124, 125] (by decide +kernel) (by decide +kernel)
set_option maxRecDepth 20000 in
theorem gX5_isTrue_X0_greatestWidth : GoodIn wsX5_isTrue (wsV RX5 174 RX0 yX0_greatestWidth wsX0_greatestWidth) := goodIn_app (goodIn_of _ (by decide +kernel)) ggX5_isTrue_X0_greatestWidth
set_option maxRecDepth 20000 in
theorem ggX5_isTrue_X0_loops : GoodIn wsX5_isTrue wsX0_loops := goodIn_r _ [37, 38, 39, 40, 6, 41, 42, 10, 11, 12, 13, 27, 28, 29, 30, 26, 43, 44, 45, 46, 22, 23, 24, 25, 47, 48, 49, 50, 51, 52, 53, 123, 124, 125] (by decide +kernel) (by decide +kernel)
set_option maxRecDepth 20000 in
theorem gX5_isTrue_X0_loops : GoodIn wsX5_isTrue (wsV RX5 164 RX0 yX0_loops wsX0_loops) := goodIn_app (goodIn_of _ (by decide +kernel)) ggX5_isTrue_X0_loops
set_option maxRecDepth 20000 in
theorem ggX5_isTrue_X0_has : GoodIn wsX5_isTrue wsX0_has := goodIn_r _ [57, 13, 123, 124, 125] (by decide +kernel) (by decide +kernel)
set_option maxRecDepth 20000 in
theorem gX5_isTrue_X0_has : GoodIn wsX5_isTrue (wsV RX5 76 RX0 yX0_has wsX0_has) := goodIn_app (goodIn_of _ (by decide +kernel)) ggX5_isTrue_X0_has
set_option maxRecDepth 20000 in
theorem ggX5_isTrue_X3_closes : GoodIn wsX5_isTrue wsX3_closes := goodIn_r _ [62, 63, 39, 40, 6, 41, 42, 10, 11, 12, 13, 27, 28, 29, 30, 26, 64, 44, 45, 46, 22, 23, 24, 25, 31, 32, 33, 65, 66, 67, 61, 68, 69, 70, 71, 72, 73, 74, 75, 76, 77, 78, 79, 80, 81, 82, 83, 84, 85, 86, 87, 88, 89, 90, 91, 92, 93, 94, 95, 96, 97, 98, 99, 100, 101, 102, 103, 104, 105, 106, 107, 108, 123, 124, 125, 126, 127, 128, 129] (by decide +kernel) (by decide +kernel)
set_option maxRecDepth 20000 in
theorem gX5_isTrue_X3_closes : GoodIn wsX5_isTrue (wsV RX5 251 RX3 yX3_closes wsX3_closes) := goodIn_app (goodIn_of _ (by decide +kernel)) ggX5_isTrue_X3_closes
set_option maxRecDepth 20000 in
theorem ggX5_isTrue_X0_reached : GoodIn wsX5_isTrue wsX0_reached := goodIn_r _ [112, 18, 19, 20, 6, 21, 13, 22, 23, 24, 25, 26, 27, 28, 29, 30, 123, 124, 125] (by decide +kernel) (by decide +kernel)
set_option maxRecDepth 20000 in
theorem gX5_isTrue_X0_reached : GoodIn wsX5_isTrue (wsV RX5 181 RX0 yX0_reached wsX0_reached) := goodIn_app (goodIn_of _ (by decide +kernel)) ggX5_isTrue_X0_reached
set_option maxRecDepth 20000 in
theorem ggX5_isTrue_X5_holds : GoodIn wsX5_isTrue wsX5_holds := goodIn_r _ [33] (by decide +kernel) (by decide +kernel)
set_option maxRecDepth 20000 in
theorem gX5_isTrue_X5_holds : GoodIn wsX5_isTrue (va_wsS RX5 191 yX5_holds wsX5_holds) := goodIn_app (goodIn_of _ (by decide +kernel)) ggX5_isTrue_X5_holds
theorem dX5_isTrue_0 : decode cX5_isTrue 0 = .ok (.iload_n 1, 1) := by decide +kernel
theorem dX5_isTrue_1 : decode cX5_isTrue 1 = .ok (.tableswitch 201 4 7 #[31, 80, 107, 148], 31) := by decide +kernel
theorem dX5_isTrue_32 : decode cX5_isTrue 32 = .ok (.aload_n 0, 1) := by decide +kernel
theorem dX5_isTrue_33 : decode cX5_isTrue 33 = .ok (.getfield 48, 3) := by decide +kernel
theorem dX5_isTrue_36 : decode cX5_isTrue 36 = .ok (.iload_n 2, 1) := by decide +kernel
theorem dX5_isTrue_37 : decode cX5_isTrue 37 = .ok (.invokevirtual 87, 3) := by decide +kernel
theorem dX5_isTrue_40 : decode cX5_isTrue 40 = .ok (.ifCond .eq 39, 3) := by decide +kernel
theorem dX5_isTrue_43 : decode cX5_isTrue 43 = .ok (.aload_n 0, 1) := by decide +kernel
theorem dX5_isTrue_44 : decode cX5_isTrue 44 = .ok (.getfield 48, 3) := by decide +kernel
theorem dX5_isTrue_47 : decode cX5_isTrue 47 = .ok (.iload_n 3, 1) := by decide +kernel
theorem dX5_isTrue_48 : decode cX5_isTrue 48 = .ok (.invokevirtual 87, 3) := by decide +kernel
theorem dX5_isTrue_51 : decode cX5_isTrue 51 = .ok (.ifCond .eq 28, 3) := by decide +kernel
theorem dX5_isTrue_54 : decode cX5_isTrue 54 = .ok (.aload_n 0, 1) := by decide +kernel
theorem dX5_isTrue_55 : decode cX5_isTrue 55 = .ok (.getfield 48, 3) := by decide +kernel
theorem dX5_isTrue_58 : decode cX5_isTrue 58 = .ok (.aload_n 0, 1) := by decide +kernel
theorem dX5_isTrue_59 : decode cX5_isTrue 59 = .ok (.getfield 48, 3) := by decide +kernel
theorem dX5_isTrue_62 : decode cX5_isTrue 62 = .ok (.invokevirtual 135, 3) := by decide +kernel
theorem dX5_isTrue_65 : decode cX5_isTrue 65 = .ok (.iload_n 2, 1) := by decide +kernel
theorem dX5_isTrue_66 : decode cX5_isTrue 66 = .ok (.iload_n 3, 1) := by decide +kernel
theorem dX5_isTrue_67 : decode cX5_isTrue 67 = .ok (.invokevirtual 174, 3) := by decide +kernel
theorem dX5_isTrue_70 : decode cX5_isTrue 70 = .ok (.iload 4, 2) := by decide +kernel
theorem dX5_isTrue_72 : decode cX5_isTrue 72 = .ok (.if_icmp .lt 7, 3) := by decide +kernel
theorem dX5_isTrue_75 : decode cX5_isTrue 75 = .ok (.iconst 1, 1) := by decide +kernel
theorem dX5_isTrue_76 : decode cX5_isTrue 76 = .ok (.goto 4, 3) := by decide +kernel
theorem dX5_isTrue_79 : decode cX5_isTrue 79 = .ok (.iconst 0, 1) := by decide +kernel
theorem dX5_isTrue_80 : decode cX5_isTrue 80 = .ok (.ireturn, 1) := by decide +kernel
theorem dX5_isTrue_81 : decode cX5_isTrue 81 = .ok (.iload 4, 2) := by decide +kernel
theorem dX5_isTrue_83 : decode cX5_isTrue 83 = .ok (.ifCond .ne 23, 3) := by decide +kernel
theorem dX5_isTrue_86 : decode cX5_isTrue 86 = .ok (.aload_n 0, 1) := by decide +kernel
theorem dX5_isTrue_87 : decode cX5_isTrue 87 = .ok (.getfield 48, 3) := by decide +kernel
theorem dX5_isTrue_90 : decode cX5_isTrue 90 = .ok (.invokevirtual 164, 3) := by decide +kernel
theorem dX5_isTrue_93 : decode cX5_isTrue 93 = .ok (.bipush 10, 2) := by decide +kernel
theorem dX5_isTrue_95 : decode cX5_isTrue 95 = .ok (.iload_n 2, 1) := by decide +kernel
theorem dX5_isTrue_96 : decode cX5_isTrue 96 = .ok (.imul, 1) := by decide +kernel
theorem dX5_isTrue_97 : decode cX5_isTrue 97 = .ok (.iload_n 3, 1) := by decide +kernel
theorem dX5_isTrue_98 : decode cX5_isTrue 98 = .ok (.iadd, 1) := by decide +kernel
theorem dX5_isTrue_99 : decode cX5_isTrue 99 = .ok (.if_icmp .ne 7, 3) := by decide +kernel
theorem dX5_isTrue_102 : decode cX5_isTrue 102 = .ok (.iconst 1, 1) := by decide +kernel
theorem dX5_isTrue_103 : decode cX5_isTrue 103 = .ok (.goto 4, 3) := by decide +kernel
theorem dX5_isTrue_106 : decode cX5_isTrue 106 = .ok (.iconst 0, 1) := by decide +kernel
theorem dX5_isTrue_107 : decode cX5_isTrue 107 = .ok (.ireturn, 1) := by decide +kernel
theorem dX5_isTrue_108 : decode cX5_isTrue 108 = .ok (.aload_n 0, 1) := by decide +kernel
theorem dX5_isTrue_109 : decode cX5_isTrue 109 = .ok (.getfield 48, 3) := by decide +kernel
theorem dX5_isTrue_112 : decode cX5_isTrue 112 = .ok (.iload_n 2, 1) := by decide +kernel
theorem dX5_isTrue_113 : decode cX5_isTrue 113 = .ok (.invokevirtual 76, 3) := by decide +kernel
theorem dX5_isTrue_116 : decode cX5_isTrue 116 = .ok (.ifCond .eq 31, 3) := by decide +kernel
theorem dX5_isTrue_119 : decode cX5_isTrue 119 = .ok (.iload_n 3, 1) := by decide +kernel
theorem dX5_isTrue_120 : decode cX5_isTrue 120 = .ok (.ifCond .ne 27, 3) := by decide +kernel
theorem dX5_isTrue_123 : decode cX5_isTrue 123 = .ok (.iload 4, 2) := by decide +kernel
theorem dX5_isTrue_125 : decode cX5_isTrue 125 = .ok (.ifCond .ne 22, 3) := by decide +kernel
theorem dX5_isTrue_128 : decode cX5_isTrue 128 = .ok (.aload_n 0, 1) := by decide +kernel
theorem dX5_isTrue_129 : decode cX5_isTrue 129 = .ok (.getfield 44, 3) := by decide +kernel
theorem dX5_isTrue_132 : decode cX5_isTrue 132 = .ok (.aload_n 0, 1) := by decide +kernel
theorem dX5_isTrue_133 : decode cX5_isTrue 133 = .ok (.getfield 48, 3) := by decide +kernel
theorem dX5_isTrue_136 : decode cX5_isTrue 136 = .ok (.iload_n 2, 1) := by decide +kernel
theorem dX5_isTrue_137 : decode cX5_isTrue 137 = .ok (.invokevirtual 251, 3) := by decide +kernel
theorem dX5_isTrue_140 : decode cX5_isTrue 140 = .ok (.ifCond .eq 7, 3) := by decide +kernel
theorem dX5_isTrue_143 : decode cX5_isTrue 143 = .ok (.iconst 1, 1) := by decide +kernel
theorem dX5_isTrue_144 : decode cX5_isTrue 144 = .ok (.goto 4, 3) := by decide +kernel
theorem dX5_isTrue_147 : decode cX5_isTrue 147 = .ok (.iconst 0, 1) := by decide +kernel
theorem dX5_isTrue_148 : decode cX5_isTrue 148 = .ok (.ireturn, 1) := by decide +kernel
theorem dX5_isTrue_149 : decode cX5_isTrue 149 = .ok (.aload_n 0, 1) := by decide +kernel
theorem dX5_isTrue_150 : decode cX5_isTrue 150 = .ok (.getfield 48, 3) := by decide +kernel
theorem dX5_isTrue_153 : decode cX5_isTrue 153 = .ok (.iload_n 2, 1) := by decide +kernel
theorem dX5_isTrue_154 : decode cX5_isTrue 154 = .ok (.invokevirtual 87, 3) := by decide +kernel
theorem dX5_isTrue_157 : decode cX5_isTrue 157 = .ok (.ifCond .eq 43, 3) := by decide +kernel
theorem dX5_isTrue_160 : decode cX5_isTrue 160 = .ok (.iload_n 3, 1) := by decide +kernel
theorem dX5_isTrue_161 : decode cX5_isTrue 161 = .ok (.ifCond .le 39, 3) := by decide +kernel
theorem dX5_isTrue_164 : decode cX5_isTrue 164 = .ok (.iload 4, 2) := by decide +kernel
theorem dX5_isTrue_166 : decode cX5_isTrue 166 = .ok (.iconst 1, 1) := by decide +kernel
theorem dX5_isTrue_167 : decode cX5_isTrue 167 = .ok (.if_icmp .gt 33, 3) := by decide +kernel
theorem dX5_isTrue_170 : decode cX5_isTrue 170 = .ok (.aload_n 0, 1) := by decide +kernel
theorem dX5_isTrue_171 : decode cX5_isTrue 171 = .ok (.getfield 48, 3) := by decide +kernel
theorem dX5_isTrue_174 : decode cX5_isTrue 174 = .ok (.iload_n 3, 1) := by decide +kernel
theorem dX5_isTrue_175 : decode cX5_isTrue 175 = .ok (.invokevirtual 181, 3) := by decide +kernel
theorem dX5_isTrue_178 : decode cX5_isTrue 178 = .ok (.iload_n 2, 1) := by decide +kernel
theorem dX5_isTrue_179 : decode cX5_isTrue 179 = .ok (.invokestatic 191, 3) := by decide +kernel
theorem dX5_isTrue_182 : decode cX5_isTrue 182 = .ok (.iload 4, 2) := by decide +kernel
theorem dX5_isTrue_184 : decode cX5_isTrue 184 = .ok (.iconst 1, 1) := by decide +kernel
theorem dX5_isTrue_185 : decode cX5_isTrue 185 = .ok (.if_icmp .ne 7, 3) := by decide +kernel
theorem dX5_isTrue_188 : decode cX5_isTrue 188 = .ok (.iconst 1, 1) := by decide +kernel
theorem dX5_isTrue_189 : decode cX5_isTrue 189 = .ok (.goto 4, 3) := by decide +kernel
theorem dX5_isTrue_192 : decode cX5_isTrue 192 = .ok (.iconst 0, 1) := by decide +kernel
theorem dX5_isTrue_193 : decode cX5_isTrue 193 = .ok (.if_icmp .ne 7, 3) := by decide +kernel
theorem dX5_isTrue_196 : decode cX5_isTrue 196 = .ok (.iconst 1, 1) := by decide +kernel
theorem dX5_isTrue_197 : decode cX5_isTrue 197 = .ok (.goto 4, 3) := by decide +kernel
theorem dX5_isTrue_200 : decode cX5_isTrue 200 = .ok (.iconst 0, 1) := by decide +kernel
theorem dX5_isTrue_201 : decode cX5_isTrue 201 = .ok (.ireturn, 1) := by decide +kernel
theorem dX5_isTrue_202 : decode cX5_isTrue 202 = .ok (.iconst 0, 1) := by decide +kernel
theorem dX5_isTrue_203 : decode cX5_isTrue 203 = .ok (.ireturn, 1) := by decide +kernel
set_option maxRecDepth 20000 in
theorem ggX5_gain_X0_spread : GoodIn wsX5_gain wsX0_spread := goodIn_r _ [6, 7, 24, 25, 26] (by decide +kernel) (by decide +kernel)
set_option maxRecDepth 20000 in
theorem gX5_gain_X0_spread : GoodIn wsX5_gain (wsV RX5 188 RX0 yX0_spread wsX0_spread) := goodIn_app (goodIn_of _ (by decide +kernel)) ggX5_gain_X0_spread
set_option maxRecDepth 20000 in
theorem ggX5_gain_J6_bitCount_0f7a4 : GoodIn wsX5_gain wsJ6_bitCount_0f7a4 := goodIn_r _ [11, 12, 13, 14] (by decide +kernel) (by decide +kernel)
set_option maxRecDepth 20000 in
theorem gX5_gain_J6_bitCount_0f7a4 : GoodIn wsX5_gain (va_wsS RX5 214 yJ6_bitCount_0f7a4 wsJ6_bitCount_0f7a4) := goodIn_app (goodIn_of _ (by decide +kernel)) ggX5_gain_J6_bitCount_0f7a4
theorem dX5_gain_0 : decode cX5_gain 0 = .ok (.aload_n 0, 1) := by decide +kernel
theorem dX5_gain_1 : decode cX5_gain 1 = .ok (.getfield 19, 3) := by decide +kernel
theorem dX5_gain_4 : decode cX5_gain 4 = .ok (.iload_n 1, 1) := by decide +kernel
theorem dX5_gain_5 : decode cX5_gain 5 = .ok (.iconst 1, 1) := by decide +kernel
theorem dX5_gain_6 : decode cX5_gain 6 = .ok (.invokevirtual 188, 3) := by decide +kernel
theorem dX5_gain_9 : decode cX5_gain 9 = .ok (.istore_n 3, 1) := by decide +kernel
theorem dX5_gain_10 : decode cX5_gain 10 = .ok (.aload_n 0, 1) := by decide +kernel
theorem dX5_gain_11 : decode cX5_gain 11 = .ok (.getfield 19, 3) := by decide +kernel
theorem dX5_gain_14 : decode cX5_gain 14 = .ok (.iload_n 1, 1) := by decide +kernel
theorem dX5_gain_15 : decode cX5_gain 15 = .ok (.iconst 1, 1) := by decide +kernel
theorem dX5_gain_16 : decode cX5_gain 16 = .ok (.iload_n 2, 1) := by decide +kernel
theorem dX5_gain_17 : decode cX5_gain 17 = .ok (.ishl, 1) := by decide +kernel
theorem dX5_gain_18 : decode cX5_gain 18 = .ok (.ior, 1) := by decide +kernel
theorem dX5_gain_19 : decode cX5_gain 19 = .ok (.iconst 1, 1) := by decide +kernel
theorem dX5_gain_20 : decode cX5_gain 20 = .ok (.invokevirtual 188, 3) := by decide +kernel
theorem dX5_gain_23 : decode cX5_gain 23 = .ok (.istore 4, 2) := by decide +kernel
theorem dX5_gain_25 : decode cX5_gain 25 = .ok (.iload 4, 2) := by decide +kernel
theorem dX5_gain_27 : decode cX5_gain 27 = .ok (.invokestatic 214, 3) := by decide +kernel
theorem dX5_gain_30 : decode cX5_gain 30 = .ok (.iload_n 3, 1) := by decide +kernel
theorem dX5_gain_31 : decode cX5_gain 31 = .ok (.invokestatic 214, 3) := by decide +kernel
theorem dX5_gain_34 : decode cX5_gain 34 = .ok (.isub, 1) := by decide +kernel
theorem dX5_gain_35 : decode cX5_gain 35 = .ok (.ireturn, 1) := by decide +kernel
set_option maxRecDepth 20000 in
theorem ggX5_walked_X0_get : GoodIn wsX5_walked wsX0_get := goodIn_r _ [7, 8, 18, 19, 20] (by decide +kernel) (by decide +kernel)
set_option maxRecDepth 20000 in
theorem gX5_walked_X0_get : GoodIn wsX5_walked (wsV RX5 80 RX0 yX0_get wsX0_get) := goodIn_app (goodIn_of _ (by decide +kernel)) ggX5_walked_X0_get
theorem dX5_walked_0 : decode cX5_walked 0 = .ok (.aload_n 0, 1) := by decide +kernel
theorem dX5_walked_1 : decode cX5_walked 1 = .ok (.getfield 19, 3) := by decide +kernel
theorem dX5_walked_4 : decode cX5_walked 4 = .ok (.getfield 73, 3) := by decide +kernel
theorem dX5_walked_7 : decode cX5_walked 7 = .ok (.iconst 1, 1) := by decide +kernel
theorem dX5_walked_8 : decode cX5_walked 8 = .ok (.if_icmp .ge 5, 3) := by decide +kernel
theorem dX5_walked_11 : decode cX5_walked 11 = .ok (.iload_n 1, 1) := by decide +kernel
theorem dX5_walked_12 : decode cX5_walked 12 = .ok (.ireturn, 1) := by decide +kernel
theorem dX5_walked_13 : decode cX5_walked 13 = .ok (.lload_n 2, 1) := by decide +kernel
theorem dX5_walked_14 : decode cX5_walked 14 = .ok (.aload_n 0, 1) := by decide +kernel
theorem dX5_walked_15 : decode cX5_walked 15 = .ok (.getfield 19, 3) := by decide +kernel
theorem dX5_walked_18 : decode cX5_walked 18 = .ok (.getfield 73, 3) := by decide +kernel
theorem dX5_walked_21 : decode cX5_walked 21 = .ok (.i2l, 1) := by decide +kernel
theorem dX5_walked_22 : decode cX5_walked 22 = .ok (.lrem, 1) := by decide +kernel
theorem dX5_walked_23 : decode cX5_walked 23 = .ok (.l2i, 1) := by decide +kernel
theorem dX5_walked_24 : decode cX5_walked 24 = .ok (.istore 4, 2) := by decide +kernel
theorem dX5_walked_26 : decode cX5_walked 26 = .ok (.aload_n 0, 1) := by decide +kernel
theorem dX5_walked_27 : decode cX5_walked 27 = .ok (.getfield 19, 3) := by decide +kernel
theorem dX5_walked_30 : decode cX5_walked 30 = .ok (.iload 4, 2) := by decide +kernel
theorem dX5_walked_32 : decode cX5_walked 32 = .ok (.bipush 6, 2) := by decide +kernel
theorem dX5_walked_34 : decode cX5_walked 34 = .ok (.invokevirtual 80, 3) := by decide +kernel
theorem dX5_walked_37 : decode cX5_walked 37 = .ok (.ifCond .eq 5, 3) := by decide +kernel
theorem dX5_walked_40 : decode cX5_walked 40 = .ok (.iload_n 1, 1) := by decide +kernel
theorem dX5_walked_41 : decode cX5_walked 41 = .ok (.ireturn, 1) := by decide +kernel
theorem dX5_walked_42 : decode cX5_walked 42 = .ok (.aload_n 0, 1) := by decide +kernel
theorem dX5_walked_43 : decode cX5_walked 43 = .ok (.getfield 19, 3) := by decide +kernel
theorem dX5_walked_46 : decode cX5_walked 46 = .ok (.iload 4, 2) := by decide +kernel
theorem dX5_walked_48 : decode cX5_walked 48 = .ok (.iconst 4, 1) := by decide +kernel
theorem dX5_walked_49 : decode cX5_walked 49 = .ok (.invokevirtual 80, 3) := by decide +kernel
theorem dX5_walked_52 : decode cX5_walked 52 = .ok (.istore 5, 2) := by decide +kernel
theorem dX5_walked_54 : decode cX5_walked 54 = .ok (.aload_n 0, 1) := by decide +kernel
theorem dX5_walked_55 : decode cX5_walked 55 = .ok (.getfield 19, 3) := by decide +kernel
theorem dX5_walked_58 : decode cX5_walked 58 = .ok (.iload 4, 2) := by decide +kernel
theorem dX5_walked_60 : decode cX5_walked 60 = .ok (.iconst 5, 1) := by decide +kernel
theorem dX5_walked_61 : decode cX5_walked 61 = .ok (.invokevirtual 80, 3) := by decide +kernel
theorem dX5_walked_64 : decode cX5_walked 64 = .ok (.istore 6, 2) := by decide +kernel
theorem dX5_walked_66 : decode cX5_walked 66 = .ok (.iload_n 1, 1) := by decide +kernel
theorem dX5_walked_67 : decode cX5_walked 67 = .ok (.iload 5, 2) := by decide +kernel
theorem dX5_walked_69 : decode cX5_walked 69 = .ok (.if_icmp .ne 6, 3) := by decide +kernel
theorem dX5_walked_72 : decode cX5_walked 72 = .ok (.iload 6, 2) := by decide +kernel
theorem dX5_walked_74 : decode cX5_walked 74 = .ok (.ireturn, 1) := by decide +kernel
theorem dX5_walked_75 : decode cX5_walked 75 = .ok (.iload_n 1, 1) := by decide +kernel
theorem dX5_walked_76 : decode cX5_walked 76 = .ok (.iload 6, 2) := by decide +kernel
theorem dX5_walked_78 : decode cX5_walked 78 = .ok (.if_icmp .ne 8, 3) := by decide +kernel
theorem dX5_walked_81 : decode cX5_walked 81 = .ok (.iload 5, 2) := by decide +kernel
theorem dX5_walked_83 : decode cX5_walked 83 = .ok (.goto 4, 3) := by decide +kernel
theorem dX5_walked_86 : decode cX5_walked 86 = .ok (.iload_n 1, 1) := by decide +kernel
theorem dX5_walked_87 : decode cX5_walked 87 = .ok (.ireturn, 1) := by decide +kernel
theorem dX5_factorial_0 : decode cX5_factorial 0 = .ok (.iconst 1, 1) := by decide +kernel
theorem dX5_factorial_1 : decode cX5_factorial 1 = .ok (.istore_n 1, 1) := by decide +kernel
theorem dX5_factorial_2 : decode cX5_factorial 2 = .ok (.iconst 1, 1) := by decide +kernel
theorem dX5_factorial_3 : decode cX5_factorial 3 = .ok (.istore_n 2, 1) := by decide +kernel
theorem dX5_factorial_4 : decode cX5_factorial 4 = .ok (.iload_n 2, 1) := by decide +kernel
theorem dX5_factorial_5 : decode cX5_factorial 5 = .ok (.iload_n 0, 1) := by decide +kernel
theorem dX5_factorial_6 : decode cX5_factorial 6 = .ok (.if_icmp .ge 15, 3) := by decide +kernel
theorem dX5_factorial_9 : decode cX5_factorial 9 = .ok (.iload_n 1, 1) := by decide +kernel
theorem dX5_factorial_10 : decode cX5_factorial 10 = .ok (.iload_n 2, 1) := by decide +kernel
theorem dX5_factorial_11 : decode cX5_factorial 11 = .ok (.iconst 1, 1) := by decide +kernel
theorem dX5_factorial_12 : decode cX5_factorial 12 = .ok (.iadd, 1) := by decide +kernel
theorem dX5_factorial_13 : decode cX5_factorial 13 = .ok (.imul, 1) := by decide +kernel
theorem dX5_factorial_14 : decode cX5_factorial 14 = .ok (.istore_n 1, 1) := by decide +kernel
theorem dX5_factorial_15 : decode cX5_factorial 15 = .ok (.iinc 2 1, 3) := by decide +kernel
theorem dX5_factorial_18 : decode cX5_factorial 18 = .ok (.goto (-14), 3) := by decide +kernel
theorem dX5_factorial_21 : decode cX5_factorial 21 = .ok (.iload_n 1, 1) := by decide +kernel
theorem dX5_factorial_22 : decode cX5_factorial 22 = .ok (.ireturn, 1) := by decide +kernel
theorem dX5_power_0 : decode cX5_power 0 = .ok (.iconst 1, 1) := by decide +kernel
theorem dX5_power_1 : decode cX5_power 1 = .ok (.istore_n 2, 1) := by decide +kernel
theorem dX5_power_2 : decode cX5_power 2 = .ok (.iconst 0, 1) := by decide +kernel
theorem dX5_power_3 : decode cX5_power 3 = .ok (.istore_n 3, 1) := by decide +kernel
theorem dX5_power_4 : decode cX5_power 4 = .ok (.iload_n 3, 1) := by decide +kernel
theorem dX5_power_5 : decode cX5_power 5 = .ok (.iload_n 1, 1) := by decide +kernel
theorem dX5_power_6 : decode cX5_power 6 = .ok (.if_icmp .ge 13, 3) := by decide +kernel
theorem dX5_power_9 : decode cX5_power 9 = .ok (.iload_n 2, 1) := by decide +kernel
theorem dX5_power_10 : decode cX5_power 10 = .ok (.iload_n 0, 1) := by decide +kernel
theorem dX5_power_11 : decode cX5_power 11 = .ok (.imul, 1) := by decide +kernel
theorem dX5_power_12 : decode cX5_power 12 = .ok (.istore_n 2, 1) := by decide +kernel
theorem dX5_power_13 : decode cX5_power 13 = .ok (.iinc 3 1, 3) := by decide +kernel
theorem dX5_power_16 : decode cX5_power 16 = .ok (.goto (-12), 3) := by decide +kernel
theorem dX5_power_19 : decode cX5_power 19 = .ok (.iload_n 2, 1) := by decide +kernel
theorem dX5_power_20 : decode cX5_power 20 = .ok (.ireturn, 1) := by decide +kernel
set_option maxRecDepth 20000 in
theorem ggX5_lowest_X5_commonDivisor : GoodIn wsX5_lowest wsX5_commonDivisor := goodIn_r _ [8] (by decide +kernel) (by decide +kernel)
set_option maxRecDepth 20000 in
theorem gX5_lowest_X5_commonDivisor : GoodIn wsX5_lowest (va_wsS RX5 260 yX5_commonDivisor wsX5_commonDivisor) := goodIn_app (goodIn_of _ (by decide +kernel)) ggX5_lowest_X5_commonDivisor
theorem dX5_lowest_0 : decode cX5_lowest 0 = .ok (.lload_n 2, 1) := by decide +kernel
theorem dX5_lowest_1 : decode cX5_lowest 1 = .ok (.lload_n 0, 1) := by decide +kernel
theorem dX5_lowest_2 : decode cX5_lowest 2 = .ok (.invokestatic 254, 3) := by decide +kernel
theorem dX5_lowest_5 : decode cX5_lowest 5 = .ok (.invokestatic 260, 3) := by decide +kernel
theorem dX5_lowest_8 : decode cX5_lowest 8 = .ok (.lstore 5, 2) := by decide +kernel
theorem dX5_lowest_10 : decode cX5_lowest 10 = .ok (.iload 4, 2) := by decide +kernel
theorem dX5_lowest_12 : decode cX5_lowest 12 = .ok (.ifCond .eq 7, 3) := by decide +kernel
theorem dX5_lowest_15 : decode cX5_lowest 15 = .ok (.lload_n 0, 1) := by decide +kernel
theorem dX5_lowest_16 : decode cX5_lowest 16 = .ok (.goto 4, 3) := by decide +kernel
theorem dX5_lowest_19 : decode cX5_lowest 19 = .ok (.lload_n 2, 1) := by decide +kernel
theorem dX5_lowest_20 : decode cX5_lowest 20 = .ok (.lstore 7, 2) := by decide +kernel
theorem dX5_lowest_22 : decode cX5_lowest 22 = .ok (.lload 5, 2) := by decide +kernel
theorem dX5_lowest_24 : decode cX5_lowest 24 = .ok (.lconst 0, 1) := by decide +kernel
theorem dX5_lowest_25 : decode cX5_lowest 25 = .ok (.lcmp, 1) := by decide +kernel
theorem dX5_lowest_26 : decode cX5_lowest 26 = .ok (.ifCond .ne 8, 3) := by decide +kernel
theorem dX5_lowest_29 : decode cX5_lowest 29 = .ok (.lload 7, 2) := by decide +kernel
theorem dX5_lowest_31 : decode cX5_lowest 31 = .ok (.goto 8, 3) := by decide +kernel
theorem dX5_lowest_34 : decode cX5_lowest 34 = .ok (.lload 7, 2) := by decide +kernel
theorem dX5_lowest_36 : decode cX5_lowest 36 = .ok (.lload 5, 2) := by decide +kernel
theorem dX5_lowest_38 : decode cX5_lowest 38 = .ok (.ldiv, 1) := by decide +kernel
theorem dX5_lowest_39 : decode cX5_lowest 39 = .ok (.lreturn, 1) := by decide +kernel
theorem dX5_commonDivisor_0 : decode cX5_commonDivisor 0 = .ok (.lload_n 0, 1) := by decide +kernel
theorem dX5_commonDivisor_1 : decode cX5_commonDivisor 1 = .ok (.lstore 4, 2) := by decide +kernel
theorem dX5_commonDivisor_3 : decode cX5_commonDivisor 3 = .ok (.lload_n 2, 1) := by decide +kernel
theorem dX5_commonDivisor_4 : decode cX5_commonDivisor 4 = .ok (.lstore 6, 2) := by decide +kernel
theorem dX5_commonDivisor_6 : decode cX5_commonDivisor 6 = .ok (.iconst 0, 1) := by decide +kernel
theorem dX5_commonDivisor_7 : decode cX5_commonDivisor 7 = .ok (.istore 8, 2) := by decide +kernel
theorem dX5_commonDivisor_9 : decode cX5_commonDivisor 9 = .ok (.iload 8, 2) := by decide +kernel
theorem dX5_commonDivisor_11 : decode cX5_commonDivisor 11 = .ok (.bipush 100, 2) := by decide +kernel
theorem dX5_commonDivisor_13 : decode cX5_commonDivisor 13 = .ok (.if_icmp .ge 31, 3) := by decide +kernel
theorem dX5_commonDivisor_16 : decode cX5_commonDivisor 16 = .ok (.lload 6, 2) := by decide +kernel
theorem dX5_commonDivisor_18 : decode cX5_commonDivisor 18 = .ok (.lconst 0, 1) := by decide +kernel
theorem dX5_commonDivisor_19 : decode cX5_commonDivisor 19 = .ok (.lcmp, 1) := by decide +kernel
theorem dX5_commonDivisor_20 : decode cX5_commonDivisor 20 = .ok (.ifCond .eq 24, 3) := by decide +kernel
theorem dX5_commonDivisor_23 : decode cX5_commonDivisor 23 = .ok (.lload 4, 2) := by decide +kernel
theorem dX5_commonDivisor_25 : decode cX5_commonDivisor 25 = .ok (.lload 6, 2) := by decide +kernel
theorem dX5_commonDivisor_27 : decode cX5_commonDivisor 27 = .ok (.lrem, 1) := by decide +kernel
theorem dX5_commonDivisor_28 : decode cX5_commonDivisor 28 = .ok (.lstore 9, 2) := by decide +kernel
theorem dX5_commonDivisor_30 : decode cX5_commonDivisor 30 = .ok (.lload 6, 2) := by decide +kernel
theorem dX5_commonDivisor_32 : decode cX5_commonDivisor 32 = .ok (.lstore 4, 2) := by decide +kernel
theorem dX5_commonDivisor_34 : decode cX5_commonDivisor 34 = .ok (.lload 9, 2) := by decide +kernel
theorem dX5_commonDivisor_36 : decode cX5_commonDivisor 36 = .ok (.lstore 6, 2) := by decide +kernel
theorem dX5_commonDivisor_38 : decode cX5_commonDivisor 38 = .ok (.iinc 8 1, 3) := by decide +kernel
theorem dX5_commonDivisor_41 : decode cX5_commonDivisor 41 = .ok (.goto (-32), 3) := by decide +kernel
theorem dX5_commonDivisor_44 : decode cX5_commonDivisor 44 = .ok (.lload 4, 2) := by decide +kernel
theorem dX5_commonDivisor_46 : decode cX5_commonDivisor 46 = .ok (.lreturn, 1) := by decide +kernel
