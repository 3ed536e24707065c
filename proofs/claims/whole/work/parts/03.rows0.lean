set_option maxRecDepth 20000 in
theorem ggX0_init_X4_init : GoodIn wsX0_init wsX4_init := goodIn_r _ [16, 17, 2, 3, 4, 18, 19, 20, 21, 22, 23, 56, 57, 58, 59, 60, 61] rfl (by decide +kernel)
set_option maxRecDepth 20000 in
theorem gX0_init_X4_init_n32 : GoodIn wsX0_init (wsX4_init) := ggX0_init_X4_init
set_option maxRecDepth 20000 in
theorem ggX0_init_X0_clear : GoodIn wsX0_init wsX0_clear := goodIn_r _ [28, 6, 14, 29, 30, 31, 32, 33, 34, 35, 36, 37, 13, 38, 39, 40, 20, 21, 41, 42, 43, 44, 45, 46, 47, 48, 49, 50, 51, 52, 53, 54, 55, 56, 57, 58, 59, 60, 61] rfl (by decide +kernel)
set_option maxRecDepth 20000 in
theorem gX0_init_X0_clear : GoodIn wsX0_init (wsV RX0 37 RX0 yX0_clear wsX0_clear) := goodIn_app (goodIn_r _ [24, 25, 26, 27] rfl (by decide +kernel)) ggX0_init_X0_clear
theorem dX0_init_0 : decode cX0_init 0 = .ok (.aload_n 0, 1) := by decide +kernel
theorem dX0_init_1 : decode cX0_init 1 = .ok (.invokespecial 3, 3) := by decide +kernel
theorem dX0_init_4 : decode cX0_init 4 = .ok (.aload_n 0, 1) := by decide +kernel
theorem dX0_init_5 : decode cX0_init 5 = .ok (.bipush 8, 2) := by decide +kernel
theorem dX0_init_7 : decode cX0_init 7 = .ok (.newarray .int, 2) := by decide +kernel
theorem dX0_init_9 : decode cX0_init 9 = .ok (.putfield 9, 3) := by decide +kernel
theorem dX0_init_12 : decode cX0_init 12 = .ok (.aload_n 0, 1) := by decide +kernel
theorem dX0_init_13 : decode cX0_init 13 = .ok (.bipush 64, 2) := by decide +kernel
theorem dX0_init_15 : decode cX0_init 15 = .ok (.newarray .int, 2) := by decide +kernel
theorem dX0_init_17 : decode cX0_init 17 = .ok (.putfield 15, 3) := by decide +kernel
theorem dX0_init_20 : decode cX0_init 20 = .ok (.aload_n 0, 1) := by decide +kernel
theorem dX0_init_21 : decode cX0_init 21 = .ok (.bipush 12, 2) := by decide +kernel
theorem dX0_init_23 : decode cX0_init 23 = .ok (.newarray .int, 2) := by decide +kernel
theorem dX0_init_25 : decode cX0_init 25 = .ok (.putfield 18, 3) := by decide +kernel
theorem dX0_init_28 : decode cX0_init 28 = .ok (.aload_n 0, 1) := by decide +kernel
theorem dX0_init_29 : decode cX0_init 29 = .ok (.bipush 12, 2) := by decide +kernel
theorem dX0_init_31 : decode cX0_init 31 = .ok (.newarray .int, 2) := by decide +kernel
theorem dX0_init_33 : decode cX0_init 33 = .ok (.putfield 21, 3) := by decide +kernel
theorem dX0_init_36 : decode cX0_init 36 = .ok (.aload_n 0, 1) := by decide +kernel
theorem dX0_init_37 : decode cX0_init 37 = .ok (.bipush 12, 2) := by decide +kernel
theorem dX0_init_39 : decode cX0_init 39 = .ok (.newarray .int, 2) := by decide +kernel
theorem dX0_init_41 : decode cX0_init 41 = .ok (.putfield 24, 3) := by decide +kernel
theorem dX0_init_44 : decode cX0_init 44 = .ok (.aload_n 0, 1) := by decide +kernel
theorem dX0_init_45 : decode cX0_init 45 = .ok (.bipush 20, 2) := by decide +kernel
theorem dX0_init_47 : decode cX0_init 47 = .ok (.newarray .int, 2) := by decide +kernel
theorem dX0_init_49 : decode cX0_init 49 = .ok (.putfield 27, 3) := by decide +kernel
theorem dX0_init_52 : decode cX0_init 52 = .ok (.aload_n 0, 1) := by decide +kernel
theorem dX0_init_53 : decode cX0_init 53 = .ok (.new 30, 3) := by decide +kernel
theorem dX0_init_56 : decode cX0_init 56 = .ok (.dup, 1) := by decide +kernel
theorem dX0_init_57 : decode cX0_init 57 = .ok (.invokespecial 32, 3) := by decide +kernel
theorem dX0_init_60 : decode cX0_init 60 = .ok (.putfield 33, 3) := by decide +kernel
theorem dX0_init_63 : decode cX0_init 63 = .ok (.aload_n 0, 1) := by decide +kernel
theorem dX0_init_64 : decode cX0_init 64 = .ok (.invokevirtual 37, 3) := by decide +kernel
theorem dX0_init_67 : decode cX0_init 67 = .ok (.return_, 1) := by decide +kernel
set_option maxRecDepth 20000 in
theorem ggX0_clear_X4_clear : GoodIn wsX0_clear wsX4_clear := goodIn_r _ [14, 15, 16, 17, 33, 34, 35, 36, 37, 38] rfl (by decide +kernel)
set_option maxRecDepth 20000 in
theorem gX0_clear_X4_clear_n40 : GoodIn wsX0_clear (wsX4_clear) := ggX0_clear_X4_clear
theorem dX0_clear_0 : decode cX0_clear 0 = .ok (.iconst 0, 1) := by decide +kernel
theorem dX0_clear_1 : decode cX0_clear 1 = .ok (.istore_n 1, 1) := by decide +kernel
theorem dX0_clear_2 : decode cX0_clear 2 = .ok (.iload_n 1, 1) := by decide +kernel
theorem dX0_clear_3 : decode cX0_clear 3 = .ok (.aload_n 0, 1) := by decide +kernel
theorem dX0_clear_4 : decode cX0_clear 4 = .ok (.getfield 15, 3) := by decide +kernel
theorem dX0_clear_7 : decode cX0_clear 7 = .ok (.arraylength, 1) := by decide +kernel
theorem dX0_clear_8 : decode cX0_clear 8 = .ok (.if_icmp .ge 16, 3) := by decide +kernel
theorem dX0_clear_11 : decode cX0_clear 11 = .ok (.aload_n 0, 1) := by decide +kernel
theorem dX0_clear_12 : decode cX0_clear 12 = .ok (.getfield 15, 3) := by decide +kernel
theorem dX0_clear_15 : decode cX0_clear 15 = .ok (.iload_n 1, 1) := by decide +kernel
theorem dX0_clear_16 : decode cX0_clear 16 = .ok (.iconst 0, 1) := by decide +kernel
theorem dX0_clear_17 : decode cX0_clear 17 = .ok (.iastore, 1) := by decide +kernel
theorem dX0_clear_18 : decode cX0_clear 18 = .ok (.iinc 1 1, 3) := by decide +kernel
theorem dX0_clear_21 : decode cX0_clear 21 = .ok (.goto (-19), 3) := by decide +kernel
theorem dX0_clear_24 : decode cX0_clear 24 = .ok (.aload_n 0, 1) := by decide +kernel
theorem dX0_clear_25 : decode cX0_clear 25 = .ok (.getfield 33, 3) := by decide +kernel
theorem dX0_clear_28 : decode cX0_clear 28 = .ok (.invokevirtual 40, 3) := by decide +kernel
theorem dX0_clear_31 : decode cX0_clear 31 = .ok (.aload_n 0, 1) := by decide +kernel
theorem dX0_clear_32 : decode cX0_clear 32 = .ok (.iconst 0, 1) := by decide +kernel
theorem dX0_clear_33 : decode cX0_clear 33 = .ok (.putfield 41, 3) := by decide +kernel
theorem dX0_clear_36 : decode cX0_clear 36 = .ok (.aload_n 0, 1) := by decide +kernel
theorem dX0_clear_37 : decode cX0_clear 37 = .ok (.iconst 0, 1) := by decide +kernel
theorem dX0_clear_38 : decode cX0_clear 38 = .ok (.putfield 45, 3) := by decide +kernel
theorem dX0_clear_41 : decode cX0_clear 41 = .ok (.aload_n 0, 1) := by decide +kernel
theorem dX0_clear_42 : decode cX0_clear 42 = .ok (.iconst 0, 1) := by decide +kernel
theorem dX0_clear_43 : decode cX0_clear 43 = .ok (.putfield 48, 3) := by decide +kernel
theorem dX0_clear_46 : decode cX0_clear 46 = .ok (.aload_n 0, 1) := by decide +kernel
theorem dX0_clear_47 : decode cX0_clear 47 = .ok (.iconst 0, 1) := by decide +kernel
theorem dX0_clear_48 : decode cX0_clear 48 = .ok (.putfield 51, 3) := by decide +kernel
theorem dX0_clear_51 : decode cX0_clear 51 = .ok (.aload_n 0, 1) := by decide +kernel
theorem dX0_clear_52 : decode cX0_clear 52 = .ok (.iconst (-1), 1) := by decide +kernel
theorem dX0_clear_53 : decode cX0_clear 53 = .ok (.putfield 54, 3) := by decide +kernel
theorem dX0_clear_56 : decode cX0_clear 56 = .ok (.aload_n 0, 1) := by decide +kernel
theorem dX0_clear_57 : decode cX0_clear 57 = .ok (.bipush 9, 2) := by decide +kernel
theorem dX0_clear_59 : decode cX0_clear 59 = .ok (.putfield 57, 3) := by decide +kernel
theorem dX0_clear_62 : decode cX0_clear 62 = .ok (.aload_n 0, 1) := by decide +kernel
theorem dX0_clear_63 : decode cX0_clear 63 = .ok (.bipush 50, 2) := by decide +kernel
theorem dX0_clear_65 : decode cX0_clear 65 = .ok (.putfield 60, 3) := by decide +kernel
theorem dX0_clear_68 : decode cX0_clear 68 = .ok (.aload_n 0, 1) := by decide +kernel
theorem dX0_clear_69 : decode cX0_clear 69 = .ok (.iconst 0, 1) := by decide +kernel
theorem dX0_clear_70 : decode cX0_clear 70 = .ok (.putfield 63, 3) := by decide +kernel
theorem dX0_clear_73 : decode cX0_clear 73 = .ok (.return_, 1) := by decide +kernel
theorem dX0_hasBay_0 : decode cX0_hasBay 0 = .ok (.iload_n 1, 1) := by decide +kernel
theorem dX0_hasBay_1 : decode cX0_hasBay 1 = .ok (.ifCond .lt 21, 3) := by decide +kernel
theorem dX0_hasBay_4 : decode cX0_hasBay 4 = .ok (.iload_n 1, 1) := by decide +kernel
theorem dX0_hasBay_5 : decode cX0_hasBay 5 = .ok (.aload_n 0, 1) := by decide +kernel
theorem dX0_hasBay_6 : decode cX0_hasBay 6 = .ok (.getfield 41, 3) := by decide +kernel
theorem dX0_hasBay_9 : decode cX0_hasBay 9 = .ok (.if_icmp .ge 13, 3) := by decide +kernel
theorem dX0_hasBay_12 : decode cX0_hasBay 12 = .ok (.iload_n 1, 1) := by decide +kernel
theorem dX0_hasBay_13 : decode cX0_hasBay 13 = .ok (.bipush 8, 2) := by decide +kernel
theorem dX0_hasBay_15 : decode cX0_hasBay 15 = .ok (.if_icmp .ge 7, 3) := by decide +kernel
theorem dX0_hasBay_18 : decode cX0_hasBay 18 = .ok (.iconst 1, 1) := by decide +kernel
theorem dX0_hasBay_19 : decode cX0_hasBay 19 = .ok (.goto 4, 3) := by decide +kernel
theorem dX0_hasBay_22 : decode cX0_hasBay 22 = .ok (.iconst 0, 1) := by decide +kernel
theorem dX0_hasBay_23 : decode cX0_hasBay 23 = .ok (.ireturn, 1) := by decide +kernel
theorem dX0_hasDeed_0 : decode cX0_hasDeed 0 = .ok (.iload_n 1, 1) := by decide +kernel
theorem dX0_hasDeed_1 : decode cX0_hasDeed 1 = .ok (.ifCond .lt 21, 3) := by decide +kernel
theorem dX0_hasDeed_4 : decode cX0_hasDeed 4 = .ok (.iload_n 1, 1) := by decide +kernel
theorem dX0_hasDeed_5 : decode cX0_hasDeed 5 = .ok (.aload_n 0, 1) := by decide +kernel
theorem dX0_hasDeed_6 : decode cX0_hasDeed 6 = .ok (.getfield 48, 3) := by decide +kernel
theorem dX0_hasDeed_9 : decode cX0_hasDeed 9 = .ok (.if_icmp .ge 13, 3) := by decide +kernel
theorem dX0_hasDeed_12 : decode cX0_hasDeed 12 = .ok (.iload_n 1, 1) := by decide +kernel
theorem dX0_hasDeed_13 : decode cX0_hasDeed 13 = .ok (.bipush 12, 2) := by decide +kernel
theorem dX0_hasDeed_15 : decode cX0_hasDeed 15 = .ok (.if_icmp .ge 7, 3) := by decide +kernel
theorem dX0_hasDeed_18 : decode cX0_hasDeed 18 = .ok (.iconst 1, 1) := by decide +kernel
theorem dX0_hasDeed_19 : decode cX0_hasDeed 19 = .ok (.goto 4, 3) := by decide +kernel
theorem dX0_hasDeed_22 : decode cX0_hasDeed 22 = .ok (.iconst 0, 1) := by decide +kernel
theorem dX0_hasDeed_23 : decode cX0_hasDeed 23 = .ok (.ireturn, 1) := by decide +kernel
theorem dX0_find_0 : decode cX0_find 0 = .ok (.iconst 0, 1) := by decide +kernel
theorem dX0_find_1 : decode cX0_find 1 = .ok (.istore_n 2, 1) := by decide +kernel
theorem dX0_find_2 : decode cX0_find 2 = .ok (.iload_n 2, 1) := by decide +kernel
theorem dX0_find_3 : decode cX0_find 3 = .ok (.aload_n 0, 1) := by decide +kernel
theorem dX0_find_4 : decode cX0_find 4 = .ok (.getfield 41, 3) := by decide +kernel
theorem dX0_find_7 : decode cX0_find 7 = .ok (.if_icmp .ge 27, 3) := by decide +kernel
theorem dX0_find_10 : decode cX0_find 10 = .ok (.iload_n 2, 1) := by decide +kernel
theorem dX0_find_11 : decode cX0_find 11 = .ok (.bipush 8, 2) := by decide +kernel
theorem dX0_find_13 : decode cX0_find 13 = .ok (.if_icmp .ge 21, 3) := by decide +kernel
theorem dX0_find_16 : decode cX0_find 16 = .ok (.aload_n 0, 1) := by decide +kernel
theorem dX0_find_17 : decode cX0_find 17 = .ok (.getfield 9, 3) := by decide +kernel
theorem dX0_find_20 : decode cX0_find 20 = .ok (.iload_n 2, 1) := by decide +kernel
theorem dX0_find_21 : decode cX0_find 21 = .ok (.iaload, 1) := by decide +kernel
theorem dX0_find_22 : decode cX0_find 22 = .ok (.iload_n 1, 1) := by decide +kernel
theorem dX0_find_23 : decode cX0_find 23 = .ok (.if_icmp .ne 5, 3) := by decide +kernel
theorem dX0_find_26 : decode cX0_find 26 = .ok (.iload_n 2, 1) := by decide +kernel
theorem dX0_find_27 : decode cX0_find 27 = .ok (.ireturn, 1) := by decide +kernel
theorem dX0_find_28 : decode cX0_find 28 = .ok (.iinc 2 1, 3) := by decide +kernel
theorem dX0_find_31 : decode cX0_find 31 = .ok (.goto (-29), 3) := by decide +kernel
theorem dX0_find_34 : decode cX0_find 34 = .ok (.iconst (-1), 1) := by decide +kernel
theorem dX0_find_35 : decode cX0_find 35 = .ok (.ireturn, 1) := by decide +kernel
set_option maxRecDepth 20000 in
theorem ggX0_daysBetween_X0_hasBay : GoodIn wsX0_daysBetween wsX0_hasBay := goodIn_r _ [6, 7, 8, 9, 10, 11, 12, 13, 14, 15, 16, 17, 18, 19, 20, 21, 22] rfl (by decide +kernel)
set_option maxRecDepth 20000 in
theorem gX0_daysBetween_X0_hasBay : GoodIn wsX0_daysBetween (wsV RX0 66 RX0 yX0_hasBay wsX0_hasBay) := goodIn_app (goodIn_r _ [2, 3, 4, 5] rfl (by decide +kernel)) ggX0_daysBetween_X0_hasBay
theorem dX0_daysBetween_0 : decode cX0_daysBetween 0 = .ok (.aload_n 0, 1) := by decide +kernel
theorem dX0_daysBetween_1 : decode cX0_daysBetween 1 = .ok (.iload_n 1, 1) := by decide +kernel
theorem dX0_daysBetween_2 : decode cX0_daysBetween 2 = .ok (.invokevirtual 66, 3) := by decide +kernel
theorem dX0_daysBetween_5 : decode cX0_daysBetween 5 = .ok (.ifCond .eq 25, 3) := by decide +kernel
theorem dX0_daysBetween_8 : decode cX0_daysBetween 8 = .ok (.aload_n 0, 1) := by decide +kernel
theorem dX0_daysBetween_9 : decode cX0_daysBetween 9 = .ok (.iload_n 2, 1) := by decide +kernel
theorem dX0_daysBetween_10 : decode cX0_daysBetween 10 = .ok (.invokevirtual 66, 3) := by decide +kernel
theorem dX0_daysBetween_13 : decode cX0_daysBetween 13 = .ok (.ifCond .eq 17, 3) := by decide +kernel
theorem dX0_daysBetween_16 : decode cX0_daysBetween 16 = .ok (.aload_n 0, 1) := by decide +kernel
theorem dX0_daysBetween_17 : decode cX0_daysBetween 17 = .ok (.getfield 15, 3) := by decide +kernel
theorem dX0_daysBetween_20 : decode cX0_daysBetween 20 = .ok (.iload_n 1, 1) := by decide +kernel
theorem dX0_daysBetween_21 : decode cX0_daysBetween 21 = .ok (.bipush 8, 2) := by decide +kernel
theorem dX0_daysBetween_23 : decode cX0_daysBetween 23 = .ok (.imul, 1) := by decide +kernel
theorem dX0_daysBetween_24 : decode cX0_daysBetween 24 = .ok (.iload_n 2, 1) := by decide +kernel
theorem dX0_daysBetween_25 : decode cX0_daysBetween 25 = .ok (.iadd, 1) := by decide +kernel
theorem dX0_daysBetween_26 : decode cX0_daysBetween 26 = .ok (.iaload, 1) := by decide +kernel
theorem dX0_daysBetween_27 : decode cX0_daysBetween 27 = .ok (.goto 4, 3) := by decide +kernel
theorem dX0_daysBetween_30 : decode cX0_daysBetween 30 = .ok (.iconst 0, 1) := by decide +kernel
theorem dX0_daysBetween_31 : decode cX0_daysBetween 31 = .ok (.ireturn, 1) := by decide +kernel
theorem dX0_galeOf_0 : decode cX0_galeOf 0 = .ok (.iload_n 1, 1) := by decide +kernel
theorem dX0_galeOf_1 : decode cX0_galeOf 1 = .ok (.ifCond .lt 26, 3) := by decide +kernel
theorem dX0_galeOf_4 : decode cX0_galeOf 4 = .ok (.iload_n 1, 1) := by decide +kernel
theorem dX0_galeOf_5 : decode cX0_galeOf 5 = .ok (.aload_n 0, 1) := by decide +kernel
theorem dX0_galeOf_6 : decode cX0_galeOf 6 = .ok (.getfield 51, 3) := by decide +kernel
theorem dX0_galeOf_9 : decode cX0_galeOf 9 = .ok (.if_icmp .ge 18, 3) := by decide +kernel
theorem dX0_galeOf_12 : decode cX0_galeOf 12 = .ok (.iload_n 1, 1) := by decide +kernel
theorem dX0_galeOf_13 : decode cX0_galeOf 13 = .ok (.bipush 20, 2) := by decide +kernel
theorem dX0_galeOf_15 : decode cX0_galeOf 15 = .ok (.if_icmp .ge 12, 3) := by decide +kernel
theorem dX0_galeOf_18 : decode cX0_galeOf 18 = .ok (.aload_n 0, 1) := by decide +kernel
theorem dX0_galeOf_19 : decode cX0_galeOf 19 = .ok (.getfield 27, 3) := by decide +kernel
theorem dX0_galeOf_22 : decode cX0_galeOf 22 = .ok (.iload_n 1, 1) := by decide +kernel
theorem dX0_galeOf_23 : decode cX0_galeOf 23 = .ok (.iaload, 1) := by decide +kernel
theorem dX0_galeOf_24 : decode cX0_galeOf 24 = .ok (.goto 4, 3) := by decide +kernel
theorem dX0_galeOf_27 : decode cX0_galeOf 27 = .ok (.iconst 0, 1) := by decide +kernel
theorem dX0_galeOf_28 : decode cX0_galeOf 28 = .ok (.ireturn, 1) := by decide +kernel
theorem dX0_firstBay_0 : decode cX0_firstBay 0 = .ok (.aload_n 0, 1) := by decide +kernel
theorem dX0_firstBay_1 : decode cX0_firstBay 1 = .ok (.getfield 54, 3) := by decide +kernel
theorem dX0_firstBay_4 : decode cX0_firstBay 4 = .ok (.iconst (-1), 1) := by decide +kernel
theorem dX0_firstBay_5 : decode cX0_firstBay 5 = .ok (.if_icmp .eq 10, 3) := by decide +kernel
theorem dX0_firstBay_8 : decode cX0_firstBay 8 = .ok (.aload_n 0, 1) := by decide +kernel
theorem dX0_firstBay_9 : decode cX0_firstBay 9 = .ok (.getfield 54, 3) := by decide +kernel
theorem dX0_firstBay_12 : decode cX0_firstBay 12 = .ok (.goto 15, 3) := by decide +kernel
theorem dX0_firstBay_15 : decode cX0_firstBay 15 = .ok (.aload_n 0, 1) := by decide +kernel
theorem dX0_firstBay_16 : decode cX0_firstBay 16 = .ok (.getfield 41, 3) := by decide +kernel
theorem dX0_firstBay_19 : decode cX0_firstBay 19 = .ok (.ifCond .le 7, 3) := by decide +kernel
theorem dX0_firstBay_22 : decode cX0_firstBay 22 = .ok (.iconst 0, 1) := by decide +kernel
theorem dX0_firstBay_23 : decode cX0_firstBay 23 = .ok (.goto 4, 3) := by decide +kernel
theorem dX0_firstBay_26 : decode cX0_firstBay 26 = .ok (.iconst (-1), 1) := by decide +kernel
theorem dX0_firstBay_27 : decode cX0_firstBay 27 = .ok (.ireturn, 1) := by decide +kernel
theorem dX0_addBay_0 : decode cX0_addBay 0 = .ok (.aload_n 0, 1) := by decide +kernel
theorem dX0_addBay_1 : decode cX0_addBay 1 = .ok (.getfield 41, 3) := by decide +kernel
theorem dX0_addBay_4 : decode cX0_addBay 4 = .ok (.bipush 8, 2) := by decide +kernel
theorem dX0_addBay_6 : decode cX0_addBay 6 = .ok (.if_icmp .ge 23, 3) := by decide +kernel
theorem dX0_addBay_9 : decode cX0_addBay 9 = .ok (.aload_n 0, 1) := by decide +kernel
theorem dX0_addBay_10 : decode cX0_addBay 10 = .ok (.getfield 9, 3) := by decide +kernel
theorem dX0_addBay_13 : decode cX0_addBay 13 = .ok (.aload_n 0, 1) := by decide +kernel
theorem dX0_addBay_14 : decode cX0_addBay 14 = .ok (.getfield 41, 3) := by decide +kernel
theorem dX0_addBay_17 : decode cX0_addBay 17 = .ok (.iload_n 1, 1) := by decide +kernel
theorem dX0_addBay_18 : decode cX0_addBay 18 = .ok (.iastore, 1) := by decide +kernel
theorem dX0_addBay_19 : decode cX0_addBay 19 = .ok (.aload_n 0, 1) := by decide +kernel
theorem dX0_addBay_20 : decode cX0_addBay 20 = .ok (.dup, 1) := by decide +kernel
theorem dX0_addBay_21 : decode cX0_addBay 21 = .ok (.getfield 41, 3) := by decide +kernel
theorem dX0_addBay_24 : decode cX0_addBay 24 = .ok (.iconst 1, 1) := by decide +kernel
theorem dX0_addBay_25 : decode cX0_addBay 25 = .ok (.iadd, 1) := by decide +kernel
theorem dX0_addBay_26 : decode cX0_addBay 26 = .ok (.putfield 41, 3) := by decide +kernel
theorem dX0_addBay_29 : decode cX0_addBay 29 = .ok (.return_, 1) := by decide +kernel
set_option maxRecDepth 20000 in
theorem ggX0_addLane_X0_hasBay : GoodIn wsX0_addLane wsX0_hasBay := goodIn_r _ [7, 8, 9, 10, 11, 12, 13, 14, 15, 16, 17, 18, 19, 20, 21, 22, 23] rfl (by decide +kernel)
set_option maxRecDepth 20000 in
theorem gX0_addLane_X0_hasBay : GoodIn wsX0_addLane (wsV RX0 66 RX0 yX0_hasBay wsX0_hasBay) := goodIn_app (goodIn_r _ [3, 4, 5, 6] rfl (by decide +kernel)) ggX0_addLane_X0_hasBay
theorem dX0_addLane_0 : decode cX0_addLane 0 = .ok (.aload_n 0, 1) := by decide +kernel
theorem dX0_addLane_1 : decode cX0_addLane 1 = .ok (.iload_n 1, 1) := by decide +kernel
theorem dX0_addLane_2 : decode cX0_addLane 2 = .ok (.invokevirtual 66, 3) := by decide +kernel
theorem dX0_addLane_5 : decode cX0_addLane 5 = .ok (.ifCond .eq 45, 3) := by decide +kernel
theorem dX0_addLane_8 : decode cX0_addLane 8 = .ok (.aload_n 0, 1) := by decide +kernel
theorem dX0_addLane_9 : decode cX0_addLane 9 = .ok (.iload_n 2, 1) := by decide +kernel
theorem dX0_addLane_10 : decode cX0_addLane 10 = .ok (.invokevirtual 66, 3) := by decide +kernel
theorem dX0_addLane_13 : decode cX0_addLane 13 = .ok (.ifCond .eq 37, 3) := by decide +kernel
theorem dX0_addLane_16 : decode cX0_addLane 16 = .ok (.aload_n 0, 1) := by decide +kernel
theorem dX0_addLane_17 : decode cX0_addLane 17 = .ok (.getfield 15, 3) := by decide +kernel
theorem dX0_addLane_20 : decode cX0_addLane 20 = .ok (.iload_n 1, 1) := by decide +kernel
theorem dX0_addLane_21 : decode cX0_addLane 21 = .ok (.bipush 8, 2) := by decide +kernel
theorem dX0_addLane_23 : decode cX0_addLane 23 = .ok (.imul, 1) := by decide +kernel
theorem dX0_addLane_24 : decode cX0_addLane 24 = .ok (.iload_n 2, 1) := by decide +kernel
theorem dX0_addLane_25 : decode cX0_addLane 25 = .ok (.iadd, 1) := by decide +kernel
theorem dX0_addLane_26 : decode cX0_addLane 26 = .ok (.iload_n 3, 1) := by decide +kernel
theorem dX0_addLane_27 : decode cX0_addLane 27 = .ok (.iastore, 1) := by decide +kernel
theorem dX0_addLane_28 : decode cX0_addLane 28 = .ok (.aload_n 0, 1) := by decide +kernel
theorem dX0_addLane_29 : decode cX0_addLane 29 = .ok (.getfield 15, 3) := by decide +kernel
theorem dX0_addLane_32 : decode cX0_addLane 32 = .ok (.iload_n 2, 1) := by decide +kernel
theorem dX0_addLane_33 : decode cX0_addLane 33 = .ok (.bipush 8, 2) := by decide +kernel
theorem dX0_addLane_35 : decode cX0_addLane 35 = .ok (.imul, 1) := by decide +kernel
theorem dX0_addLane_36 : decode cX0_addLane 36 = .ok (.iload_n 1, 1) := by decide +kernel
theorem dX0_addLane_37 : decode cX0_addLane 37 = .ok (.iadd, 1) := by decide +kernel
theorem dX0_addLane_38 : decode cX0_addLane 38 = .ok (.iload_n 3, 1) := by decide +kernel
theorem dX0_addLane_39 : decode cX0_addLane 39 = .ok (.iastore, 1) := by decide +kernel
theorem dX0_addLane_40 : decode cX0_addLane 40 = .ok (.aload_n 0, 1) := by decide +kernel
theorem dX0_addLane_41 : decode cX0_addLane 41 = .ok (.dup, 1) := by decide +kernel
theorem dX0_addLane_42 : decode cX0_addLane 42 = .ok (.getfield 45, 3) := by decide +kernel
theorem dX0_addLane_45 : decode cX0_addLane 45 = .ok (.iconst 1, 1) := by decide +kernel
theorem dX0_addLane_46 : decode cX0_addLane 46 = .ok (.iadd, 1) := by decide +kernel
theorem dX0_addLane_47 : decode cX0_addLane 47 = .ok (.putfield 45, 3) := by decide +kernel
theorem dX0_addLane_50 : decode cX0_addLane 50 = .ok (.return_, 1) := by decide +kernel
theorem dX0_addDeed_0 : decode cX0_addDeed 0 = .ok (.aload_n 0, 1) := by decide +kernel
theorem dX0_addDeed_1 : decode cX0_addDeed 1 = .ok (.getfield 48, 3) := by decide +kernel
theorem dX0_addDeed_4 : decode cX0_addDeed 4 = .ok (.bipush 12, 2) := by decide +kernel
theorem dX0_addDeed_6 : decode cX0_addDeed 6 = .ok (.if_icmp .ge 43, 3) := by decide +kernel
theorem dX0_addDeed_9 : decode cX0_addDeed 9 = .ok (.aload_n 0, 1) := by decide +kernel
theorem dX0_addDeed_10 : decode cX0_addDeed 10 = .ok (.getfield 18, 3) := by decide +kernel
theorem dX0_addDeed_13 : decode cX0_addDeed 13 = .ok (.aload_n 0, 1) := by decide +kernel
theorem dX0_addDeed_14 : decode cX0_addDeed 14 = .ok (.getfield 48, 3) := by decide +kernel
theorem dX0_addDeed_17 : decode cX0_addDeed 17 = .ok (.iload_n 1, 1) := by decide +kernel
theorem dX0_addDeed_18 : decode cX0_addDeed 18 = .ok (.iastore, 1) := by decide +kernel
theorem dX0_addDeed_19 : decode cX0_addDeed 19 = .ok (.aload_n 0, 1) := by decide +kernel
theorem dX0_addDeed_20 : decode cX0_addDeed 20 = .ok (.getfield 21, 3) := by decide +kernel
theorem dX0_addDeed_23 : decode cX0_addDeed 23 = .ok (.aload_n 0, 1) := by decide +kernel
theorem dX0_addDeed_24 : decode cX0_addDeed 24 = .ok (.getfield 48, 3) := by decide +kernel
theorem dX0_addDeed_27 : decode cX0_addDeed 27 = .ok (.iload_n 2, 1) := by decide +kernel
theorem dX0_addDeed_28 : decode cX0_addDeed 28 = .ok (.iastore, 1) := by decide +kernel
theorem dX0_addDeed_29 : decode cX0_addDeed 29 = .ok (.aload_n 0, 1) := by decide +kernel
theorem dX0_addDeed_30 : decode cX0_addDeed 30 = .ok (.getfield 24, 3) := by decide +kernel
theorem dX0_addDeed_33 : decode cX0_addDeed 33 = .ok (.aload_n 0, 1) := by decide +kernel
theorem dX0_addDeed_34 : decode cX0_addDeed 34 = .ok (.getfield 48, 3) := by decide +kernel
theorem dX0_addDeed_37 : decode cX0_addDeed 37 = .ok (.iload_n 3, 1) := by decide +kernel
theorem dX0_addDeed_38 : decode cX0_addDeed 38 = .ok (.iastore, 1) := by decide +kernel
theorem dX0_addDeed_39 : decode cX0_addDeed 39 = .ok (.aload_n 0, 1) := by decide +kernel
theorem dX0_addDeed_40 : decode cX0_addDeed 40 = .ok (.dup, 1) := by decide +kernel
theorem dX0_addDeed_41 : decode cX0_addDeed 41 = .ok (.getfield 48, 3) := by decide +kernel
theorem dX0_addDeed_44 : decode cX0_addDeed 44 = .ok (.iconst 1, 1) := by decide +kernel
theorem dX0_addDeed_45 : decode cX0_addDeed 45 = .ok (.iadd, 1) := by decide +kernel
theorem dX0_addDeed_46 : decode cX0_addDeed 46 = .ok (.putfield 48, 3) := by decide +kernel
theorem dX0_addDeed_49 : decode cX0_addDeed 49 = .ok (.return_, 1) := by decide +kernel
theorem dX0_addWind_0 : decode cX0_addWind 0 = .ok (.aload_n 0, 1) := by decide +kernel
theorem dX0_addWind_1 : decode cX0_addWind 1 = .ok (.getfield 51, 3) := by decide +kernel
theorem dX0_addWind_4 : decode cX0_addWind 4 = .ok (.bipush 20, 2) := by decide +kernel
theorem dX0_addWind_6 : decode cX0_addWind 6 = .ok (.if_icmp .ge 23, 3) := by decide +kernel
theorem dX0_addWind_9 : decode cX0_addWind 9 = .ok (.aload_n 0, 1) := by decide +kernel
theorem dX0_addWind_10 : decode cX0_addWind 10 = .ok (.getfield 27, 3) := by decide +kernel
theorem dX0_addWind_13 : decode cX0_addWind 13 = .ok (.aload_n 0, 1) := by decide +kernel
theorem dX0_addWind_14 : decode cX0_addWind 14 = .ok (.getfield 51, 3) := by decide +kernel
theorem dX0_addWind_17 : decode cX0_addWind 17 = .ok (.iload_n 1, 1) := by decide +kernel
theorem dX0_addWind_18 : decode cX0_addWind 18 = .ok (.iastore, 1) := by decide +kernel
theorem dX0_addWind_19 : decode cX0_addWind 19 = .ok (.aload_n 0, 1) := by decide +kernel
theorem dX0_addWind_20 : decode cX0_addWind 20 = .ok (.dup, 1) := by decide +kernel
theorem dX0_addWind_21 : decode cX0_addWind 21 = .ok (.getfield 51, 3) := by decide +kernel
theorem dX0_addWind_24 : decode cX0_addWind 24 = .ok (.iconst 1, 1) := by decide +kernel
theorem dX0_addWind_25 : decode cX0_addWind 25 = .ok (.iadd, 1) := by decide +kernel
theorem dX0_addWind_26 : decode cX0_addWind 26 = .ok (.putfield 51, 3) := by decide +kernel
theorem dX0_addWind_29 : decode cX0_addWind 29 = .ok (.return_, 1) := by decide +kernel
set_option maxRecDepth 20000 in
theorem ggX1_init_X5_init : GoodIn wsX1_init wsX5_init := goodIn_r _ [16, 17, 2, 3, 18, 19, 20, 21, 22, 23, 24, 28, 29, 30, 31, 32, 33, 34, 35, 36, 37, 38, 39] rfl (by decide +kernel)
set_option maxRecDepth 20000 in
theorem gX1_init_X5_init : GoodIn wsX1_init (wsX5_init) := ggX1_init_X5_init
set_option maxRecDepth 20000 in
theorem ggX1_init_X8_init : GoodIn wsX1_init wsX8_init := goodIn_r _ [26, 27, 2, 3] rfl (by decide +kernel)
set_option maxRecDepth 20000 in
theorem gX1_init_X8_init_n20 : GoodIn wsX1_init (wsX8_init) := ggX1_init_X8_init
theorem dX1_init_0 : decode cX1_init 0 = .ok (.aload_n 0, 1) := by decide +kernel
theorem dX1_init_1 : decode cX1_init 1 = .ok (.invokespecial 3, 3) := by decide +kernel
theorem dX1_init_4 : decode cX1_init 4 = .ok (.aload_n 0, 1) := by decide +kernel
theorem dX1_init_5 : decode cX1_init 5 = .ok (.new 9, 3) := by decide +kernel
theorem dX1_init_8 : decode cX1_init 8 = .ok (.dup, 1) := by decide +kernel
theorem dX1_init_9 : decode cX1_init 9 = .ok (.invokespecial 11, 3) := by decide +kernel
theorem dX1_init_12 : decode cX1_init 12 = .ok (.putfield 12, 3) := by decide +kernel
theorem dX1_init_15 : decode cX1_init 15 = .ok (.aload_n 0, 1) := by decide +kernel
theorem dX1_init_16 : decode cX1_init 16 = .ok (.new 18, 3) := by decide +kernel
theorem dX1_init_19 : decode cX1_init 19 = .ok (.dup, 1) := by decide +kernel
theorem dX1_init_20 : decode cX1_init 20 = .ok (.invokespecial 20, 3) := by decide +kernel
theorem dX1_init_23 : decode cX1_init 23 = .ok (.putfield 21, 3) := by decide +kernel
theorem dX1_init_26 : decode cX1_init 26 = .ok (.aload_n 0, 1) := by decide +kernel
theorem dX1_init_27 : decode cX1_init 27 = .ok (.aload_n 1, 1) := by decide +kernel
theorem dX1_init_28 : decode cX1_init 28 = .ok (.putfield 25, 3) := by decide +kernel
theorem dX1_init_31 : decode cX1_init 31 = .ok (.aload_n 0, 1) := by decide +kernel
theorem dX1_init_32 : decode cX1_init 32 = .ok (.aload_n 2, 1) := by decide +kernel
theorem dX1_init_33 : decode cX1_init 33 = .ok (.putfield 29, 3) := by decide +kernel
theorem dX1_init_36 : decode cX1_init 36 = .ok (.return_, 1) := by decide +kernel
set_option maxRecDepth 20000 in
theorem ggX1_asTold_X5_take : GoodIn wsX1_asTold wsX5_take := goodIn_r _ [12, 13, 14, 15, 16, 17, 18, 19, 20, 21, 22, 23, 24, 34, 35, 36, 37, 38, 39, 40, 41, 42, 43, 44, 45] rfl (by decide +kernel)
set_option maxRecDepth 20000 in
theorem gX1_asTold_X5_take : GoodIn wsX1_asTold (wsV RX1 32 RX5 yX5_take wsX5_take) := goodIn_app (goodIn_r _ [8, 9, 10, 11] rfl (by decide +kernel)) ggX1_asTold_X5_take
theorem dX1_asTold_0 : decode cX1_asTold 0 = .ok (.aload_n 0, 1) := by decide +kernel
theorem dX1_asTold_1 : decode cX1_asTold 1 = .ok (.getfield 12, 3) := by decide +kernel
theorem dX1_asTold_4 : decode cX1_asTold 4 = .ok (.aload_n 0, 1) := by decide +kernel
theorem dX1_asTold_5 : decode cX1_asTold 5 = .ok (.getfield 29, 3) := by decide +kernel
theorem dX1_asTold_8 : decode cX1_asTold 8 = .ok (.invokevirtual 32, 3) := by decide +kernel
theorem dX1_asTold_11 : decode cX1_asTold 11 = .ok (.aload_n 0, 1) := by decide +kernel
theorem dX1_asTold_12 : decode cX1_asTold 12 = .ok (.iconst 1, 1) := by decide +kernel
theorem dX1_asTold_13 : decode cX1_asTold 13 = .ok (.putfield 36, 3) := by decide +kernel
theorem dX1_asTold_16 : decode cX1_asTold 16 = .ok (.aload_n 0, 1) := by decide +kernel
theorem dX1_asTold_17 : decode cX1_asTold 17 = .ok (.iconst 0, 1) := by decide +kernel
theorem dX1_asTold_18 : decode cX1_asTold 18 = .ok (.putfield 40, 3) := by decide +kernel
theorem dX1_asTold_21 : decode cX1_asTold 21 = .ok (.aload_n 0, 1) := by decide +kernel
theorem dX1_asTold_22 : decode cX1_asTold 22 = .ok (.iconst 0, 1) := by decide +kernel
theorem dX1_asTold_23 : decode cX1_asTold 23 = .ok (.putfield 43, 3) := by decide +kernel
theorem dX1_asTold_26 : decode cX1_asTold 26 = .ok (.aload_n 0, 1) := by decide +kernel
theorem dX1_asTold_27 : decode cX1_asTold 27 = .ok (.iconst 0, 1) := by decide +kernel
theorem dX1_asTold_28 : decode cX1_asTold 28 = .ok (.putfield 46, 3) := by decide +kernel
theorem dX1_asTold_31 : decode cX1_asTold 31 = .ok (.aload_n 0, 1) := by decide +kernel
theorem dX1_asTold_32 : decode cX1_asTold 32 = .ok (.iconst (-1), 1) := by decide +kernel
theorem dX1_asTold_33 : decode cX1_asTold 33 = .ok (.putfield 49, 3) := by decide +kernel
theorem dX1_asTold_36 : decode cX1_asTold 36 = .ok (.return_, 1) := by decide +kernel
set_option maxRecDepth 20000 in
theorem ggX1_asItGoes_X1_asTold : GoodIn wsX1_asItGoes wsX1_asTold := goodIn_r _ [6, 7, 8, 1, 9, 10, 11, 12, 13, 14, 15, 16, 17, 18, 19, 20, 21, 22, 23, 24, 25, 26, 27, 28, 29, 30, 31, 32, 33, 34, 35, 36, 37, 38, 39, 40, 41, 42, 43, 44, 45, 46, 47, 48, 49, 50] rfl (by decide +kernel)
set_option maxRecDepth 20000 in
theorem gX1_asItGoes_X1_asTold : GoodIn wsX1_asItGoes (wsV RX1 53 RX1 yX1_asTold wsX1_asTold) := goodIn_app (goodIn_r _ [2, 3, 4, 5] rfl (by decide +kernel)) ggX1_asItGoes_X1_asTold
theorem dX1_asItGoes_0 : decode cX1_asItGoes 0 = .ok (.aload_n 0, 1) := by decide +kernel
theorem dX1_asItGoes_1 : decode cX1_asItGoes 1 = .ok (.invokevirtual 53, 3) := by decide +kernel
theorem dX1_asItGoes_4 : decode cX1_asItGoes 4 = .ok (.aload_n 0, 1) := by decide +kernel
theorem dX1_asItGoes_5 : decode cX1_asItGoes 5 = .ok (.iconst 0, 1) := by decide +kernel
theorem dX1_asItGoes_6 : decode cX1_asItGoes 6 = .ok (.putfield 36, 3) := by decide +kernel
theorem dX1_asItGoes_9 : decode cX1_asItGoes 9 = .ok (.return_, 1) := by decide +kernel
set_option maxRecDepth 20000 in
theorem ggX1_byChance_X1_asTold : GoodIn wsX1_byChance wsX1_asTold := goodIn_r _ [7, 2, 8, 9, 1, 10, 11, 12, 13, 14, 15, 16, 17, 18, 19, 20, 21, 22, 23, 24, 25, 26, 27, 28, 29, 30, 31, 32, 33, 34, 35, 36, 37, 38, 39, 40, 41, 42, 43, 44, 45, 46, 47, 48, 49, 50] rfl (by decide +kernel)
set_option maxRecDepth 20000 in
theorem gX1_byChance_X1_asTold : GoodIn wsX1_byChance (wsV RX1 53 RX1 yX1_asTold wsX1_asTold) := goodIn_app (goodIn_r _ [3, 4, 5, 6] rfl (by decide +kernel)) ggX1_byChance_X1_asTold
theorem dX1_byChance_0 : decode cX1_byChance 0 = .ok (.aload_n 0, 1) := by decide +kernel
theorem dX1_byChance_1 : decode cX1_byChance 1 = .ok (.invokevirtual 53, 3) := by decide +kernel
theorem dX1_byChance_4 : decode cX1_byChance 4 = .ok (.aload_n 0, 1) := by decide +kernel
theorem dX1_byChance_5 : decode cX1_byChance 5 = .ok (.iconst 1, 1) := by decide +kernel
theorem dX1_byChance_6 : decode cX1_byChance 6 = .ok (.putfield 40, 3) := by decide +kernel
theorem dX1_byChance_9 : decode cX1_byChance 9 = .ok (.aload_n 0, 1) := by decide +kernel
theorem dX1_byChance_10 : decode cX1_byChance 10 = .ok (.getfield 12, 3) := by decide +kernel
theorem dX1_byChance_13 : decode cX1_byChance 13 = .ok (.lload_n 1, 1) := by decide +kernel
theorem dX1_byChance_14 : decode cX1_byChance 14 = .ok (.putfield 56, 3) := by decide +kernel
theorem dX1_byChance_17 : decode cX1_byChance 17 = .ok (.return_, 1) := by decide +kernel
theorem dX1_otherwise_0 : decode cX1_otherwise 0 = .ok (.aload_n 0, 1) := by decide +kernel
theorem dX1_otherwise_1 : decode cX1_otherwise 1 = .ok (.iload_n 1, 1) := by decide +kernel
theorem dX1_otherwise_2 : decode cX1_otherwise 2 = .ok (.iconst 1, 1) := by decide +kernel
theorem dX1_otherwise_3 : decode cX1_otherwise 3 = .ok (.if_icmp .ne 7, 3) := by decide +kernel
theorem dX1_otherwise_6 : decode cX1_otherwise 6 = .ok (.iconst 1, 1) := by decide +kernel
theorem dX1_otherwise_7 : decode cX1_otherwise 7 = .ok (.goto 4, 3) := by decide +kernel
theorem dX1_otherwise_10 : decode cX1_otherwise 10 = .ok (.iconst 0, 1) := by decide +kernel
theorem dX1_otherwise_11 : decode cX1_otherwise 11 = .ok (.putfield 43, 3) := by decide +kernel
theorem dX1_otherwise_14 : decode cX1_otherwise 14 = .ok (.aload_n 0, 1) := by decide +kernel
theorem dX1_otherwise_15 : decode cX1_otherwise 15 = .ok (.iload_n 1, 1) := by decide +kernel
theorem dX1_otherwise_16 : decode cX1_otherwise 16 = .ok (.iconst 2, 1) := by decide +kernel
theorem dX1_otherwise_17 : decode cX1_otherwise 17 = .ok (.if_icmp .ne 7, 3) := by decide +kernel
theorem dX1_otherwise_20 : decode cX1_otherwise 20 = .ok (.iload_n 2, 1) := by decide +kernel
theorem dX1_otherwise_21 : decode cX1_otherwise 21 = .ok (.goto 4, 3) := by decide +kernel
theorem dX1_otherwise_24 : decode cX1_otherwise 24 = .ok (.iconst (-1), 1) := by decide +kernel
theorem dX1_otherwise_25 : decode cX1_otherwise 25 = .ok (.putfield 49, 3) := by decide +kernel
theorem dX1_otherwise_28 : decode cX1_otherwise 28 = .ok (.aload_n 0, 1) := by decide +kernel
theorem dX1_otherwise_29 : decode cX1_otherwise 29 = .ok (.iload_n 1, 1) := by decide +kernel
theorem dX1_otherwise_30 : decode cX1_otherwise 30 = .ok (.iconst 3, 1) := by decide +kernel
theorem dX1_otherwise_31 : decode cX1_otherwise 31 = .ok (.if_icmp .ne 7, 3) := by decide +kernel
theorem dX1_otherwise_34 : decode cX1_otherwise 34 = .ok (.iconst 1, 1) := by decide +kernel
theorem dX1_otherwise_35 : decode cX1_otherwise 35 = .ok (.goto 4, 3) := by decide +kernel
theorem dX1_otherwise_38 : decode cX1_otherwise 38 = .ok (.iconst 0, 1) := by decide +kernel
theorem dX1_otherwise_39 : decode cX1_otherwise 39 = .ok (.putfield 46, 3) := by decide +kernel
theorem dX1_otherwise_42 : decode cX1_otherwise 42 = .ok (.iload_n 1, 1) := by decide +kernel
theorem dX1_otherwise_43 : decode cX1_otherwise 43 = .ok (.iconst 4, 1) := by decide +kernel
theorem dX1_otherwise_44 : decode cX1_otherwise 44 = .ok (.if_icmp .eq 8, 3) := by decide +kernel
theorem dX1_otherwise_47 : decode cX1_otherwise 47 = .ok (.iload_n 1, 1) := by decide +kernel
theorem dX1_otherwise_48 : decode cX1_otherwise 48 = .ok (.iconst 5, 1) := by decide +kernel
theorem dX1_otherwise_49 : decode cX1_otherwise 49 = .ok (.if_icmp .ne 20, 3) := by decide +kernel
theorem dX1_otherwise_52 : decode cX1_otherwise 52 = .ok (.aload_n 0, 1) := by decide +kernel
theorem dX1_otherwise_53 : decode cX1_otherwise 53 = .ok (.getfield 12, 3) := by decide +kernel
theorem dX1_otherwise_56 : decode cX1_otherwise 56 = .ok (.iload_n 1, 1) := by decide +kernel
theorem dX1_otherwise_57 : decode cX1_otherwise 57 = .ok (.iconst 4, 1) := by decide +kernel
theorem dX1_otherwise_58 : decode cX1_otherwise 58 = .ok (.if_icmp .ne 7, 3) := by decide +kernel
theorem dX1_otherwise_61 : decode cX1_otherwise 61 = .ok (.iconst 1, 1) := by decide +kernel
theorem dX1_otherwise_62 : decode cX1_otherwise 62 = .ok (.goto 4, 3) := by decide +kernel
theorem dX1_otherwise_65 : decode cX1_otherwise 65 = .ok (.iconst 0, 1) := by decide +kernel
theorem dX1_otherwise_66 : decode cX1_otherwise 66 = .ok (.putfield 60, 3) := by decide +kernel
theorem dX1_otherwise_69 : decode cX1_otherwise 69 = .ok (.return_, 1) := by decide +kernel
set_option maxRecDepth 20000 in
theorem ggX1_firstAdriftOf_X1_pass : GoodIn wsX1_firstAdriftOf wsX1_pass := goodIn_r _ [6, 7, 8, 9, 10, 11, 12, 13, 14, 15, 16, 17, 18, 19, 20, 21, 22, 23, 24, 25, 26, 27, 28, 29, 30, 31, 32, 33, 34, 35, 36, 37, 38, 39, 40, 41, 42, 43, 44, 45, 46, 47, 48, 49, 50, 5, 51, 52, 53, 54, 55, 56, 57, 58, 59, 60, 61, 62, 63, 64, 65, 66, 67, 68, 69, 70, 71, 72, 73, 74, 75, 76, 77, 78, 79, 80, 81, 82, 83, 84, 85, 86, 87, 88, 89, 90, 91, 92, 93, 94, 95, 96, 97, 98, 99, 100, 101, 102, 103, 104, 105, 106, 107, 108, 109, 110, 111, 112, 113, 114, 115, 116, 117, 118, 119, 120, 121, 122, 123, 124, 125, 126, 127, 128, 129, 130, 131, 132, 133, 134, 135, 148, 149, 150, 151, 152, 153, 154, 155, 156, 157, 158, 159, 160, 161, 162, 136, 137, 138, 139, 140, 141, 142, 143, 144, 145, 146, 147, 163, 164, 165, 166, 167, 168, 169, 170, 171, 172, 173, 174, 175, 176] rfl (by decide +kernel)
set_option maxRecDepth 20000 in
theorem gX1_firstAdriftOf_X1_pass : GoodIn wsX1_firstAdriftOf (wsV RX1 66 RX1 yX1_pass wsX1_pass) := goodIn_app (goodIn_r _ [2, 3, 4, 5] rfl (by decide +kernel)) ggX1_firstAdriftOf_X1_pass
theorem dX1_firstAdriftOf_0 : decode cX1_firstAdriftOf 0 = .ok (.aload_n 0, 1) := by decide +kernel
theorem dX1_firstAdriftOf_1 : decode cX1_firstAdriftOf 1 = .ok (.getfield 12, 3) := by decide +kernel
theorem dX1_firstAdriftOf_4 : decode cX1_firstAdriftOf 4 = .ok (.getfield 63, 3) := by decide +kernel
theorem dX1_firstAdriftOf_7 : decode cX1_firstAdriftOf 7 = .ok (.istore_n 2, 1) := by decide +kernel
theorem dX1_firstAdriftOf_8 : decode cX1_firstAdriftOf 8 = .ok (.iconst 1, 1) := by decide +kernel
theorem dX1_firstAdriftOf_9 : decode cX1_firstAdriftOf 9 = .ok (.istore_n 3, 1) := by decide +kernel
theorem dX1_firstAdriftOf_10 : decode cX1_firstAdriftOf 10 = .ok (.iload_n 3, 1) := by decide +kernel
theorem dX1_firstAdriftOf_11 : decode cX1_firstAdriftOf 11 = .ok (.iload_n 1, 1) := by decide +kernel
theorem dX1_firstAdriftOf_12 : decode cX1_firstAdriftOf 12 = .ok (.if_icmp .gt 30, 3) := by decide +kernel
theorem dX1_firstAdriftOf_15 : decode cX1_firstAdriftOf 15 = .ok (.aload_n 0, 1) := by decide +kernel
theorem dX1_firstAdriftOf_16 : decode cX1_firstAdriftOf 16 = .ok (.aload_n 0, 1) := by decide +kernel
theorem dX1_firstAdriftOf_17 : decode cX1_firstAdriftOf 17 = .ok (.getfield 12, 3) := by decide +kernel
theorem dX1_firstAdriftOf_20 : decode cX1_firstAdriftOf 20 = .ok (.invokevirtual 66, 3) := by decide +kernel
theorem dX1_firstAdriftOf_23 : decode cX1_firstAdriftOf 23 = .ok (.aload_n 0, 1) := by decide +kernel
theorem dX1_firstAdriftOf_24 : decode cX1_firstAdriftOf 24 = .ok (.getfield 12, 3) := by decide +kernel
theorem dX1_firstAdriftOf_27 : decode cX1_firstAdriftOf 27 = .ok (.getfield 63, 3) := by decide +kernel
theorem dX1_firstAdriftOf_30 : decode cX1_firstAdriftOf 30 = .ok (.iload_n 2, 1) := by decide +kernel
theorem dX1_firstAdriftOf_31 : decode cX1_firstAdriftOf 31 = .ok (.if_icmp .le 5, 3) := by decide +kernel
theorem dX1_firstAdriftOf_34 : decode cX1_firstAdriftOf 34 = .ok (.iload_n 3, 1) := by decide +kernel
theorem dX1_firstAdriftOf_35 : decode cX1_firstAdriftOf 35 = .ok (.ireturn, 1) := by decide +kernel
theorem dX1_firstAdriftOf_36 : decode cX1_firstAdriftOf 36 = .ok (.iinc 3 1, 3) := by decide +kernel
theorem dX1_firstAdriftOf_39 : decode cX1_firstAdriftOf 39 = .ok (.goto (-29), 3) := by decide +kernel
theorem dX1_firstAdriftOf_42 : decode cX1_firstAdriftOf 42 = .ok (.bipush (-2), 2) := by decide +kernel
theorem dX1_firstAdriftOf_44 : decode cX1_firstAdriftOf 44 = .ok (.ireturn, 1) := by decide +kernel
set_option maxRecDepth 20000 in
theorem ggX1_adriftOf_X1_pass : GoodIn wsX1_adriftOf wsX1_pass := goodIn_r _ [6, 7, 8, 9, 10, 11, 12, 13, 14, 15, 16, 17, 18, 19, 20, 21, 22, 23, 24, 25, 26, 27, 28, 29, 30, 31, 32, 33, 34, 35, 36, 37, 38, 39, 40, 41, 42, 43, 44, 45, 46, 47, 48, 49, 50, 5, 51, 52, 53, 54, 55, 56, 57, 58, 59, 60, 61, 62, 63, 64, 65, 66, 67, 68, 69, 70, 71, 72, 73, 74, 75, 76, 77, 78, 79, 80, 81, 82, 83, 84, 85, 86, 87, 88, 89, 90, 91, 92, 93, 94, 95, 96, 97, 98, 99, 100, 101, 102, 103, 104, 105, 106, 107, 108, 109, 110, 111, 112, 113, 114, 115, 116, 117, 118, 119, 120, 121, 122, 123, 124, 125, 126, 127, 128, 129, 130, 131, 132, 133, 134, 135, 148, 149, 150, 151, 152, 153, 154, 155, 156, 157, 158, 159, 160, 161, 162, 136, 137, 138, 139, 140, 141, 142, 143, 144, 145, 146, 147, 163, 164, 165, 166, 167, 168, 169, 170, 171, 172, 173, 174, 175, 176] rfl (by decide +kernel)
set_option maxRecDepth 20000 in
theorem gX1_adriftOf_X1_pass : GoodIn wsX1_adriftOf (wsV RX1 66 RX1 yX1_pass wsX1_pass) := goodIn_app (goodIn_r _ [2, 3, 4, 5] rfl (by decide +kernel)) ggX1_adriftOf_X1_pass
theorem dX1_adriftOf_0 : decode cX1_adriftOf 0 = .ok (.aload_n 0, 1) := by decide +kernel
theorem dX1_adriftOf_1 : decode cX1_adriftOf 1 = .ok (.getfield 12, 3) := by decide +kernel
theorem dX1_adriftOf_4 : decode cX1_adriftOf 4 = .ok (.getfield 63, 3) := by decide +kernel
theorem dX1_adriftOf_7 : decode cX1_adriftOf 7 = .ok (.istore_n 2, 1) := by decide +kernel
theorem dX1_adriftOf_8 : decode cX1_adriftOf 8 = .ok (.iconst 0, 1) := by decide +kernel
theorem dX1_adriftOf_9 : decode cX1_adriftOf 9 = .ok (.istore_n 3, 1) := by decide +kernel
theorem dX1_adriftOf_10 : decode cX1_adriftOf 10 = .ok (.iload_n 3, 1) := by decide +kernel
theorem dX1_adriftOf_11 : decode cX1_adriftOf 11 = .ok (.iload_n 1, 1) := by decide +kernel
theorem dX1_adriftOf_12 : decode cX1_adriftOf 12 = .ok (.if_icmp .ge 17, 3) := by decide +kernel
theorem dX1_adriftOf_15 : decode cX1_adriftOf 15 = .ok (.aload_n 0, 1) := by decide +kernel
theorem dX1_adriftOf_16 : decode cX1_adriftOf 16 = .ok (.aload_n 0, 1) := by decide +kernel
theorem dX1_adriftOf_17 : decode cX1_adriftOf 17 = .ok (.getfield 12, 3) := by decide +kernel
theorem dX1_adriftOf_20 : decode cX1_adriftOf 20 = .ok (.invokevirtual 66, 3) := by decide +kernel
theorem dX1_adriftOf_23 : decode cX1_adriftOf 23 = .ok (.iinc 3 1, 3) := by decide +kernel
theorem dX1_adriftOf_26 : decode cX1_adriftOf 26 = .ok (.goto (-16), 3) := by decide +kernel
theorem dX1_adriftOf_29 : decode cX1_adriftOf 29 = .ok (.aload_n 0, 1) := by decide +kernel
theorem dX1_adriftOf_30 : decode cX1_adriftOf 30 = .ok (.getfield 12, 3) := by decide +kernel
theorem dX1_adriftOf_33 : decode cX1_adriftOf 33 = .ok (.getfield 63, 3) := by decide +kernel
theorem dX1_adriftOf_36 : decode cX1_adriftOf 36 = .ok (.iload_n 2, 1) := by decide +kernel
theorem dX1_adriftOf_37 : decode cX1_adriftOf 37 = .ok (.isub, 1) := by decide +kernel
theorem dX1_adriftOf_38 : decode cX1_adriftOf 38 = .ok (.ireturn, 1) := by decide +kernel
set_option maxRecDepth 20000 in
theorem ggX1_pass_X5_remember : GoodIn wsX1_pass wsX5_remember := goodIn_r _ [10, 11, 12, 13, 14, 15, 16, 17, 18, 146, 147, 148, 149, 150, 151, 152, 153, 154, 155, 156, 157] rfl (by decide +kernel)
set_option maxRecDepth 20000 in
theorem gX1_pass_X5_remember : GoodIn wsX1_pass (wsV RX1 87 RX5 yX5_remember wsX5_remember) := goodIn_app (goodIn_r _ [6, 7, 8, 9] rfl (by decide +kernel)) ggX1_pass_X5_remember
set_option maxRecDepth 20000 in
theorem ggX1_pass_X5_lieIn : GoodIn wsX1_pass wsX5_lieIn := goodIn_r _ [22, 23, 24, 25, 146, 147, 148, 149, 150, 151, 152, 153, 154, 155, 156, 157] rfl (by decide +kernel)
set_option maxRecDepth 20000 in
theorem gX1_pass_X5_lieIn : GoodIn wsX1_pass (wsV RX1 97 RX5 yX5_lieIn wsX5_lieIn) := goodIn_app (goodIn_r _ [19, 20, 21, 9] rfl (by decide +kernel)) ggX1_pass_X5_lieIn
set_option maxRecDepth 20000 in
theorem ggX1_pass_X5_draw : GoodIn wsX1_pass wsX5_draw := goodIn_r _ [29, 30, 31, 32, 33, 34, 146, 147, 148, 149, 150, 151, 152, 153, 154, 155, 156, 157] rfl (by decide +kernel)
set_option maxRecDepth 20000 in
theorem gX1_pass_X5_draw : GoodIn wsX1_pass (wsV RX1 101 RX5 yX5_draw wsX5_draw) := goodIn_app (goodIn_r _ [26, 27, 28, 9] rfl (by decide +kernel)) ggX1_pass_X5_draw
set_option maxRecDepth 20000 in
theorem ggX1_pass_X0_galeOf : GoodIn wsX1_pass wsX0_galeOf := goodIn_r _ [39, 40, 41, 131, 132, 133, 134, 135, 136, 137, 138, 139, 140, 141, 142, 143, 144, 145] rfl (by decide +kernel)
set_option maxRecDepth 20000 in
theorem gX1_pass_X0_galeOf : GoodIn wsX1_pass (wsV RX1 105 RX0 yX0_galeOf wsX0_galeOf) := goodIn_app (goodIn_r _ [35, 36, 37, 38] rfl (by decide +kernel)) ggX1_pass_X0_galeOf
set_option maxRecDepth 20000 in
theorem ggX1_pass_X1_lieByCopy : GoodIn wsX1_pass wsX1_lieByCopy := goodIn_r _ [46, 47, 1, 26, 27, 28, 9, 29, 30, 31, 32, 33, 34, 122, 123, 124, 125, 126, 127, 128, 129, 130, 131, 132, 133, 134, 135, 136, 137, 138, 139, 140, 141, 142, 143, 144, 145, 146, 147, 148, 149, 150, 151, 152, 153, 154, 155, 156, 157] rfl (by decide +kernel)
set_option maxRecDepth 20000 in
theorem gX1_pass_X1_lieByCopy : GoodIn wsX1_pass (wsV RX1 115 RX1 yX1_lieByCopy wsX1_lieByCopy) := goodIn_app (goodIn_r _ [42, 43, 44, 45] rfl (by decide +kernel)) ggX1_pass_X1_lieByCopy
set_option maxRecDepth 20000 in
theorem ggX1_pass_X1_lieByAnchor : GoodIn wsX1_pass wsX1_lieByAnchor := goodIn_r _ [51, 52, 1, 53, 54, 55, 56, 57, 58, 59, 60, 61, 62, 63, 64, 65, 66, 67, 68, 69, 70, 71, 72, 13, 14, 15, 73, 74, 75, 76, 77, 78, 79, 80, 81, 82, 83, 84, 85, 86, 87, 88, 89, 90, 91, 92, 93, 94, 95, 96, 97, 98, 99, 100, 101, 102, 103, 104, 105, 106, 107, 108, 109, 110, 111, 112, 113, 114, 6, 7, 8, 9, 10, 11, 12, 16, 17, 18, 115, 116, 117, 118, 119, 120, 121, 122, 123, 124, 125, 126, 127, 128, 129, 130, 146, 147, 148, 149, 150, 151, 152, 153, 154, 155, 156, 157, 131, 132, 133, 134, 135, 136, 137, 138, 139, 140, 141, 142, 143, 144, 145, 158, 159, 160, 161, 162, 163, 164, 165, 166, 167, 168, 169, 170, 171] rfl (by decide +kernel)
set_option maxRecDepth 20000 in
theorem gX1_pass_X1_lieByAnchor : GoodIn wsX1_pass (wsV RX1 118 RX1 yX1_lieByAnchor wsX1_lieByAnchor) := goodIn_app (goodIn_r _ [48, 49, 50, 45] rfl (by decide +kernel)) ggX1_pass_X1_lieByAnchor
theorem dX1_pass_0 : decode cX1_pass 0 = .ok (.iconst 0, 1) := by decide +kernel
theorem dX1_pass_1 : decode cX1_pass 1 = .ok (.istore_n 2, 1) := by decide +kernel
theorem dX1_pass_2 : decode cX1_pass 2 = .ok (.iload_n 2, 1) := by decide +kernel
theorem dX1_pass_3 : decode cX1_pass 3 = .ok (.aload_n 0, 1) := by decide +kernel
theorem dX1_pass_4 : decode cX1_pass 4 = .ok (.getfield 25, 3) := by decide +kernel
theorem dX1_pass_7 : decode cX1_pass 7 = .ok (.getfield 69, 3) := by decide +kernel
theorem dX1_pass_10 : decode cX1_pass 10 = .ok (.if_icmp .ge 73, 3) := by decide +kernel
theorem dX1_pass_13 : decode cX1_pass 13 = .ok (.iload_n 2, 1) := by decide +kernel
theorem dX1_pass_14 : decode cX1_pass 14 = .ok (.bipush 12, 2) := by decide +kernel
theorem dX1_pass_16 : decode cX1_pass 16 = .ok (.if_icmp .ge 67, 3) := by decide +kernel
theorem dX1_pass_19 : decode cX1_pass 19 = .ok (.aload_n 0, 1) := by decide +kernel
theorem dX1_pass_20 : decode cX1_pass 20 = .ok (.getfield 25, 3) := by decide +kernel
theorem dX1_pass_23 : decode cX1_pass 23 = .ok (.getfield 74, 3) := by decide +kernel
theorem dX1_pass_26 : decode cX1_pass 26 = .ok (.iload_n 2, 1) := by decide +kernel
theorem dX1_pass_27 : decode cX1_pass 27 = .ok (.iaload, 1) := by decide +kernel
theorem dX1_pass_28 : decode cX1_pass 28 = .ok (.aload_n 1, 1) := by decide +kernel
theorem dX1_pass_29 : decode cX1_pass 29 = .ok (.getfield 78, 3) := by decide +kernel
theorem dX1_pass_32 : decode cX1_pass 32 = .ok (.if_icmp .ne 45, 3) := by decide +kernel
theorem dX1_pass_35 : decode cX1_pass 35 = .ok (.iload_n 2, 1) := by decide +kernel
theorem dX1_pass_36 : decode cX1_pass 36 = .ok (.aload_n 0, 1) := by decide +kernel
theorem dX1_pass_37 : decode cX1_pass 37 = .ok (.getfield 49, 3) := by decide +kernel
theorem dX1_pass_40 : decode cX1_pass 40 = .ok (.if_icmp .eq 37, 3) := by decide +kernel
theorem dX1_pass_43 : decode cX1_pass 43 = .ok (.aload_n 1, 1) := by decide +kernel
theorem dX1_pass_44 : decode cX1_pass 44 = .ok (.aload_n 0, 1) := by decide +kernel
theorem dX1_pass_45 : decode cX1_pass 45 = .ok (.getfield 25, 3) := by decide +kernel
theorem dX1_pass_48 : decode cX1_pass 48 = .ok (.getfield 81, 3) := by decide +kernel
theorem dX1_pass_51 : decode cX1_pass 51 = .ok (.iload_n 2, 1) := by decide +kernel
theorem dX1_pass_52 : decode cX1_pass 52 = .ok (.iaload, 1) := by decide +kernel
theorem dX1_pass_53 : decode cX1_pass 53 = .ok (.aload_n 0, 1) := by decide +kernel
theorem dX1_pass_54 : decode cX1_pass 54 = .ok (.getfield 46, 3) := by decide +kernel
theorem dX1_pass_57 : decode cX1_pass 57 = .ok (.ifCond .eq 8, 3) := by decide +kernel
theorem dX1_pass_60 : decode cX1_pass 60 = .ok (.bipush 9, 2) := by decide +kernel
theorem dX1_pass_62 : decode cX1_pass 62 = .ok (.goto 12, 3) := by decide +kernel
theorem dX1_pass_65 : decode cX1_pass 65 = .ok (.aload_n 0, 1) := by decide +kernel
theorem dX1_pass_66 : decode cX1_pass 66 = .ok (.getfield 25, 3) := by decide +kernel
theorem dX1_pass_69 : decode cX1_pass 69 = .ok (.getfield 84, 3) := by decide +kernel
theorem dX1_pass_72 : decode cX1_pass 72 = .ok (.iload_n 2, 1) := by decide +kernel
theorem dX1_pass_73 : decode cX1_pass 73 = .ok (.iaload, 1) := by decide +kernel
theorem dX1_pass_74 : decode cX1_pass 74 = .ok (.invokevirtual 87, 3) := by decide +kernel
theorem dX1_pass_77 : decode cX1_pass 77 = .ok (.iinc 2 1, 3) := by decide +kernel
theorem dX1_pass_80 : decode cX1_pass 80 = .ok (.goto (-78), 3) := by decide +kernel
theorem dX1_pass_83 : decode cX1_pass 83 = .ok (.aload_n 1, 1) := by decide +kernel
theorem dX1_pass_84 : decode cX1_pass 84 = .ok (.getfield 91, 3) := by decide +kernel
theorem dX1_pass_87 : decode cX1_pass 87 = .ok (.iconst (-1), 1) := by decide +kernel
theorem dX1_pass_88 : decode cX1_pass 88 = .ok (.if_icmp .eq 22, 3) := by decide +kernel
theorem dX1_pass_91 : decode cX1_pass 91 = .ok (.aload_n 1, 1) := by decide +kernel
theorem dX1_pass_92 : decode cX1_pass 92 = .ok (.getfield 94, 3) := by decide +kernel
theorem dX1_pass_95 : decode cX1_pass 95 = .ok (.aload_n 1, 1) := by decide +kernel
theorem dX1_pass_96 : decode cX1_pass 96 = .ok (.getfield 78, 3) := by decide +kernel
theorem dX1_pass_99 : decode cX1_pass 99 = .ok (.if_icmp .gt 11, 3) := by decide +kernel
theorem dX1_pass_102 : decode cX1_pass 102 = .ok (.aload_n 1, 1) := by decide +kernel
theorem dX1_pass_103 : decode cX1_pass 103 = .ok (.aload_n 1, 1) := by decide +kernel
theorem dX1_pass_104 : decode cX1_pass 104 = .ok (.getfield 91, 3) := by decide +kernel
theorem dX1_pass_107 : decode cX1_pass 107 = .ok (.invokevirtual 97, 3) := by decide +kernel
theorem dX1_pass_110 : decode cX1_pass 110 = .ok (.aload_n 0, 1) := by decide +kernel
theorem dX1_pass_111 : decode cX1_pass 111 = .ok (.getfield 40, 3) := by decide +kernel
theorem dX1_pass_114 : decode cX1_pass 114 = .ok (.ifCond .eq 13, 3) := by decide +kernel
theorem dX1_pass_117 : decode cX1_pass 117 = .ok (.aload_n 1, 1) := by decide +kernel
theorem dX1_pass_118 : decode cX1_pass 118 = .ok (.invokevirtual 101, 3) := by decide +kernel
theorem dX1_pass_121 : decode cX1_pass 121 = .ok (.bipush 10, 2) := by decide +kernel
theorem dX1_pass_123 : decode cX1_pass 123 = .ok (.irem, 1) := by decide +kernel
theorem dX1_pass_124 : decode cX1_pass 124 = .ok (.goto 25, 3) := by decide +kernel
theorem dX1_pass_127 : decode cX1_pass 127 = .ok (.aload_n 0, 1) := by decide +kernel
theorem dX1_pass_128 : decode cX1_pass 128 = .ok (.getfield 43, 3) := by decide +kernel
theorem dX1_pass_131 : decode cX1_pass 131 = .ok (.ifCond .eq 7, 3) := by decide +kernel
theorem dX1_pass_134 : decode cX1_pass 134 = .ok (.iconst 0, 1) := by decide +kernel
theorem dX1_pass_135 : decode cX1_pass 135 = .ok (.goto 14, 3) := by decide +kernel
theorem dX1_pass_138 : decode cX1_pass 138 = .ok (.aload_n 0, 1) := by decide +kernel
theorem dX1_pass_139 : decode cX1_pass 139 = .ok (.getfield 25, 3) := by decide +kernel
theorem dX1_pass_142 : decode cX1_pass 142 = .ok (.aload_n 1, 1) := by decide +kernel
theorem dX1_pass_143 : decode cX1_pass 143 = .ok (.getfield 78, 3) := by decide +kernel
theorem dX1_pass_146 : decode cX1_pass 146 = .ok (.invokevirtual 105, 3) := by decide +kernel
theorem dX1_pass_149 : decode cX1_pass 149 = .ok (.istore_n 2, 1) := by decide +kernel
theorem dX1_pass_150 : decode cX1_pass 150 = .ok (.aload_n 1, 1) := by decide +kernel
theorem dX1_pass_151 : decode cX1_pass 151 = .ok (.getfield 91, 3) := by decide +kernel
theorem dX1_pass_154 : decode cX1_pass 154 = .ok (.iconst (-1), 1) := by decide +kernel
theorem dX1_pass_155 : decode cX1_pass 155 = .ok (.if_icmp .eq 16, 3) := by decide +kernel
theorem dX1_pass_158 : decode cX1_pass 158 = .ok (.aload_n 1, 1) := by decide +kernel
theorem dX1_pass_159 : decode cX1_pass 159 = .ok (.dup, 1) := by decide +kernel
theorem dX1_pass_160 : decode cX1_pass 160 = .ok (.getfield 109, 3) := by decide +kernel
theorem dX1_pass_163 : decode cX1_pass 163 = .ok (.iconst 1, 1) := by decide +kernel
theorem dX1_pass_164 : decode cX1_pass 164 = .ok (.iadd, 1) := by decide +kernel
theorem dX1_pass_165 : decode cX1_pass 165 = .ok (.putfield 109, 3) := by decide +kernel
theorem dX1_pass_168 : decode cX1_pass 168 = .ok (.goto 40, 3) := by decide +kernel
theorem dX1_pass_171 : decode cX1_pass 171 = .ok (.aload_n 1, 1) := by decide +kernel
theorem dX1_pass_172 : decode cX1_pass 172 = .ok (.getfield 112, 3) := by decide +kernel
theorem dX1_pass_175 : decode cX1_pass 175 = .ok (.iconst (-1), 1) := by decide +kernel
theorem dX1_pass_176 : decode cX1_pass 176 = .ok (.if_icmp .eq 18, 3) := by decide +kernel
theorem dX1_pass_179 : decode cX1_pass 179 = .ok (.aload_n 1, 1) := by decide +kernel
theorem dX1_pass_180 : decode cX1_pass 180 = .ok (.getfield 60, 3) := by decide +kernel
theorem dX1_pass_183 : decode cX1_pass 183 = .ok (.ifCond .eq 11, 3) := by decide +kernel
theorem dX1_pass_186 : decode cX1_pass 186 = .ok (.aload_n 0, 1) := by decide +kernel
theorem dX1_pass_187 : decode cX1_pass 187 = .ok (.aload_n 1, 1) := by decide +kernel
theorem dX1_pass_188 : decode cX1_pass 188 = .ok (.invokevirtual 115, 3) := by decide +kernel
theorem dX1_pass_191 : decode cX1_pass 191 = .ok (.goto 17, 3) := by decide +kernel
theorem dX1_pass_194 : decode cX1_pass 194 = .ok (.aload_n 1, 1) := by decide +kernel
theorem dX1_pass_195 : decode cX1_pass 195 = .ok (.getfield 112, 3) := by decide +kernel
theorem dX1_pass_198 : decode cX1_pass 198 = .ok (.iconst (-1), 1) := by decide +kernel
theorem dX1_pass_199 : decode cX1_pass 199 = .ok (.if_icmp .eq 9, 3) := by decide +kernel
theorem dX1_pass_202 : decode cX1_pass 202 = .ok (.aload_n 0, 1) := by decide +kernel
theorem dX1_pass_203 : decode cX1_pass 203 = .ok (.aload_n 1, 1) := by decide +kernel
theorem dX1_pass_204 : decode cX1_pass 204 = .ok (.iload_n 2, 1) := by decide +kernel
theorem dX1_pass_205 : decode cX1_pass 205 = .ok (.invokevirtual 118, 3) := by decide +kernel
theorem dX1_pass_208 : decode cX1_pass 208 = .ok (.aload_n 1, 1) := by decide +kernel
theorem dX1_pass_209 : decode cX1_pass 209 = .ok (.dup, 1) := by decide +kernel
theorem dX1_pass_210 : decode cX1_pass 210 = .ok (.getfield 78, 3) := by decide +kernel
theorem dX1_pass_213 : decode cX1_pass 213 = .ok (.iconst 1, 1) := by decide +kernel
theorem dX1_pass_214 : decode cX1_pass 214 = .ok (.iadd, 1) := by decide +kernel
theorem dX1_pass_215 : decode cX1_pass 215 = .ok (.putfield 78, 3) := by decide +kernel
theorem dX1_pass_218 : decode cX1_pass 218 = .ok (.return_, 1) := by decide +kernel
set_option maxRecDepth 20000 in
theorem ggX1_lieByCopy_X5_draw : GoodIn wsX1_lieByCopy wsX5_draw := goodIn_r _ [7, 8, 9, 10, 11, 12, 37, 38, 39, 40, 41, 42, 43, 44, 45, 46, 47, 48] rfl (by decide +kernel)
set_option maxRecDepth 20000 in
theorem gX1_lieByCopy_X5_draw : GoodIn wsX1_lieByCopy (wsV RX1 101 RX5 yX5_draw wsX5_draw) := goodIn_app (goodIn_r _ [3, 4, 5, 6] rfl (by decide +kernel)) ggX1_lieByCopy_X5_draw
theorem dX1_lieByCopy_0 : decode cX1_lieByCopy 0 = .ok (.aload_n 0, 1) := by decide +kernel
theorem dX1_lieByCopy_1 : decode cX1_lieByCopy 1 = .ok (.getfield 36, 3) := by decide +kernel
theorem dX1_lieByCopy_4 : decode cX1_lieByCopy 4 = .ok (.ifCond .eq 28, 3) := by decide +kernel
theorem dX1_lieByCopy_7 : decode cX1_lieByCopy 7 = .ok (.aload_n 1, 1) := by decide +kernel
theorem dX1_lieByCopy_8 : decode cX1_lieByCopy 8 = .ok (.invokevirtual 101, 3) := by decide +kernel
theorem dX1_lieByCopy_11 : decode cX1_lieByCopy 11 = .ok (.bipush 100, 2) := by decide +kernel
theorem dX1_lieByCopy_13 : decode cX1_lieByCopy 13 = .ok (.irem, 1) := by decide +kernel
theorem dX1_lieByCopy_14 : decode cX1_lieByCopy 14 = .ok (.aload_n 0, 1) := by decide +kernel
theorem dX1_lieByCopy_15 : decode cX1_lieByCopy 15 = .ok (.getfield 25, 3) := by decide +kernel
theorem dX1_lieByCopy_18 : decode cX1_lieByCopy 18 = .ok (.getfield 122, 3) := by decide +kernel
theorem dX1_lieByCopy_21 : decode cX1_lieByCopy 21 = .ok (.if_icmp .ge 7, 3) := by decide +kernel
theorem dX1_lieByCopy_24 : decode cX1_lieByCopy 24 = .ok (.iconst 1, 1) := by decide +kernel
theorem dX1_lieByCopy_25 : decode cX1_lieByCopy 25 = .ok (.goto 24, 3) := by decide +kernel
theorem dX1_lieByCopy_28 : decode cX1_lieByCopy 28 = .ok (.iconst 0, 1) := by decide +kernel
theorem dX1_lieByCopy_29 : decode cX1_lieByCopy 29 = .ok (.goto 20, 3) := by decide +kernel
theorem dX1_lieByCopy_32 : decode cX1_lieByCopy 32 = .ok (.aload_n 0, 1) := by decide +kernel
theorem dX1_lieByCopy_33 : decode cX1_lieByCopy 33 = .ok (.getfield 25, 3) := by decide +kernel
theorem dX1_lieByCopy_36 : decode cX1_lieByCopy 36 = .ok (.getfield 122, 3) := by decide +kernel
theorem dX1_lieByCopy_39 : decode cX1_lieByCopy 39 = .ok (.bipush 50, 2) := by decide +kernel
theorem dX1_lieByCopy_41 : decode cX1_lieByCopy 41 = .ok (.if_icmp .lt 7, 3) := by decide +kernel
theorem dX1_lieByCopy_44 : decode cX1_lieByCopy 44 = .ok (.iconst 1, 1) := by decide +kernel
theorem dX1_lieByCopy_45 : decode cX1_lieByCopy 45 = .ok (.goto 4, 3) := by decide +kernel
theorem dX1_lieByCopy_48 : decode cX1_lieByCopy 48 = .ok (.iconst 0, 1) := by decide +kernel
theorem dX1_lieByCopy_49 : decode cX1_lieByCopy 49 = .ok (.istore_n 2, 1) := by decide +kernel
theorem dX1_lieByCopy_50 : decode cX1_lieByCopy 50 = .ok (.iload_n 2, 1) := by decide +kernel
theorem dX1_lieByCopy_51 : decode cX1_lieByCopy 51 = .ok (.ifCond .eq 16, 3) := by decide +kernel
theorem dX1_lieByCopy_54 : decode cX1_lieByCopy 54 = .ok (.aload_n 1, 1) := by decide +kernel
theorem dX1_lieByCopy_55 : decode cX1_lieByCopy 55 = .ok (.dup, 1) := by decide +kernel
theorem dX1_lieByCopy_56 : decode cX1_lieByCopy 56 = .ok (.getfield 125, 3) := by decide +kernel
theorem dX1_lieByCopy_59 : decode cX1_lieByCopy 59 = .ok (.iconst 1, 1) := by decide +kernel
theorem dX1_lieByCopy_60 : decode cX1_lieByCopy 60 = .ok (.iadd, 1) := by decide +kernel
theorem dX1_lieByCopy_61 : decode cX1_lieByCopy 61 = .ok (.putfield 125, 3) := by decide +kernel
theorem dX1_lieByCopy_64 : decode cX1_lieByCopy 64 = .ok (.goto 13, 3) := by decide +kernel
theorem dX1_lieByCopy_67 : decode cX1_lieByCopy 67 = .ok (.aload_n 1, 1) := by decide +kernel
theorem dX1_lieByCopy_68 : decode cX1_lieByCopy 68 = .ok (.dup, 1) := by decide +kernel
theorem dX1_lieByCopy_69 : decode cX1_lieByCopy 69 = .ok (.getfield 63, 3) := by decide +kernel
theorem dX1_lieByCopy_72 : decode cX1_lieByCopy 72 = .ok (.iconst 1, 1) := by decide +kernel
theorem dX1_lieByCopy_73 : decode cX1_lieByCopy 73 = .ok (.iadd, 1) := by decide +kernel
theorem dX1_lieByCopy_74 : decode cX1_lieByCopy 74 = .ok (.putfield 63, 3) := by decide +kernel
theorem dX1_lieByCopy_77 : decode cX1_lieByCopy 77 = .ok (.return_, 1) := by decide +kernel
set_option maxRecDepth 20000 in
theorem ggX1_lieByAnchor_X8_recall : GoodIn wsX1_lieByAnchor wsX8_recall := goodIn_r _ [7, 8, 9, 10, 11, 12, 13, 6, 14, 94, 95, 96, 97, 98, 99, 100, 101, 102, 103, 104, 105, 121, 122, 123, 124, 125, 126, 127, 128] rfl (by decide +kernel)
set_option maxRecDepth 20000 in
theorem gX1_lieByAnchor_X8_recall : GoodIn wsX1_lieByAnchor (wsV RX1 128 RX8 yX8_recall wsX8_recall) := goodIn_app (goodIn_r _ [3, 4, 5, 6] rfl (by decide +kernel)) ggX1_lieByAnchor_X8_recall
set_option maxRecDepth 20000 in
theorem ggX1_lieByAnchor_X8_set : GoodIn wsX1_lieByAnchor wsX8_set := goodIn_r _ [18, 19, 20, 21, 10, 22, 23, 24, 25, 26, 121, 122, 123, 124, 125, 126, 127, 128] rfl (by decide +kernel)
set_option maxRecDepth 20000 in
theorem gX1_lieByAnchor_X8_set : GoodIn wsX1_lieByAnchor (wsV RX1 131 RX8 yX8_set wsX8_set) := goodIn_app (goodIn_r _ [15, 16, 17, 6] rfl (by decide +kernel)) ggX1_lieByAnchor_X8_set
set_option maxRecDepth 20000 in
theorem ggX1_lieByAnchor_X4_feel : GoodIn wsX1_lieByAnchor wsX4_feel := goodIn_r _ [31, 32, 33, 34, 35, 24, 36, 37, 38, 39, 40, 41, 42, 30, 43, 44, 45, 46, 47, 48, 49, 50, 51, 6, 52, 8, 26, 9, 20, 19, 53, 21, 54, 55, 56, 57, 58, 121, 122, 123, 124, 125, 126, 127, 128, 129, 130, 131, 132, 133, 134] rfl (by decide +kernel)
set_option maxRecDepth 20000 in
theorem gX1_lieByAnchor_X4_feel : GoodIn wsX1_lieByAnchor (wsV RX1 139 RX4 yX4_feel wsX4_feel) := goodIn_app (goodIn_r _ [27, 28, 29, 30] rfl (by decide +kernel)) ggX1_lieByAnchor_X4_feel
set_option maxRecDepth 20000 in
theorem ggX1_lieByAnchor_X4_grips : GoodIn wsX1_lieByAnchor wsX4_grips := goodIn_r _ [62, 32, 40, 41, 42, 30, 43, 44, 45, 46, 47, 48, 49, 50, 51, 6, 52, 8, 26, 9, 20, 19, 53, 21, 54, 55, 56, 57, 58, 121, 122, 123, 124, 125, 126, 127, 128, 129, 130, 131, 132, 133, 134] rfl (by decide +kernel)
set_option maxRecDepth 20000 in
theorem gX1_lieByAnchor_X4_grips : GoodIn wsX1_lieByAnchor (wsV RX1 145 RX4 yX4_grips wsX4_grips) := goodIn_app (goodIn_r _ [59, 60, 61, 30] rfl (by decide +kernel)) ggX1_lieByAnchor_X4_grips
set_option maxRecDepth 20000 in
theorem ggX1_lieByAnchor_X4_gainOf : GoodIn wsX1_lieByAnchor wsX4_gainOf := goodIn_r _ [66, 32, 67, 34, 35, 24, 36, 37, 38, 39, 40, 41, 42, 30, 43, 44, 45, 46, 47, 48, 49, 50, 51, 6, 52, 8, 26, 9, 20, 19, 53, 21, 54, 55, 56, 57, 58, 129, 130, 131, 132, 133, 134, 121, 122, 123, 124, 125, 126, 127, 128] rfl (by decide +kernel)
set_option maxRecDepth 20000 in
theorem gX1_lieByAnchor_X4_gainOf : GoodIn wsX1_lieByAnchor (wsV RX1 149 RX4 yX4_gainOf wsX4_gainOf) := goodIn_app (goodIn_r _ [63, 64, 65, 30] rfl (by decide +kernel)) ggX1_lieByAnchor_X4_gainOf
set_option maxRecDepth 20000 in
theorem ggX1_lieByAnchor_X5_remember : GoodIn wsX1_lieByAnchor wsX5_remember := goodIn_r _ [72, 73, 74, 23, 24, 25, 75, 76, 77, 94, 95, 96, 97, 98, 99, 100, 101, 102, 103, 104, 105] rfl (by decide +kernel)
set_option maxRecDepth 20000 in
theorem gX1_lieByAnchor_X5_remember : GoodIn wsX1_lieByAnchor (wsV RX1 87 RX5 yX5_remember wsX5_remember) := goodIn_app (goodIn_r _ [68, 69, 70, 71] rfl (by decide +kernel)) ggX1_lieByAnchor_X5_remember
set_option maxRecDepth 20000 in
theorem ggX1_lieByAnchor_X5_drag : GoodIn wsX1_lieByAnchor wsX5_drag := goodIn_r _ [81, 73, 82, 83, 24, 84, 94, 95, 96, 97, 98, 99, 100, 101, 102, 103, 104, 105] rfl (by decide +kernel)
set_option maxRecDepth 20000 in
theorem gX1_lieByAnchor_X5_drag : GoodIn wsX1_lieByAnchor (wsV RX1 153 RX5 yX5_drag wsX5_drag) := goodIn_app (goodIn_r _ [78, 79, 80, 71] rfl (by decide +kernel)) ggX1_lieByAnchor_X5_drag
theorem dX1_lieByAnchor_0 : decode cX1_lieByAnchor 0 = .ok (.aload_n 0, 1) := by decide +kernel
theorem dX1_lieByAnchor_1 : decode cX1_lieByAnchor 1 = .ok (.getfield 21, 3) := by decide +kernel
theorem dX1_lieByAnchor_4 : decode cX1_lieByAnchor 4 = .ok (.aload_n 1, 1) := by decide +kernel
theorem dX1_lieByAnchor_5 : decode cX1_lieByAnchor 5 = .ok (.aload_n 1, 1) := by decide +kernel
theorem dX1_lieByAnchor_6 : decode cX1_lieByAnchor 6 = .ok (.getfield 112, 3) := by decide +kernel
theorem dX1_lieByAnchor_9 : decode cX1_lieByAnchor 9 = .ok (.invokevirtual 128, 3) := by decide +kernel
theorem dX1_lieByAnchor_12 : decode cX1_lieByAnchor 12 = .ok (.aload_n 0, 1) := by decide +kernel
theorem dX1_lieByAnchor_13 : decode cX1_lieByAnchor 13 = .ok (.getfield 21, 3) := by decide +kernel
theorem dX1_lieByAnchor_16 : decode cX1_lieByAnchor 16 = .ok (.aload_n 1, 1) := by decide +kernel
theorem dX1_lieByAnchor_17 : decode cX1_lieByAnchor 17 = .ok (.getfield 78, 3) := by decide +kernel
theorem dX1_lieByAnchor_20 : decode cX1_lieByAnchor 20 = .ok (.iload_n 2, 1) := by decide +kernel
theorem dX1_lieByAnchor_21 : decode cX1_lieByAnchor 21 = .ok (.iconst 1, 1) := by decide +kernel
theorem dX1_lieByAnchor_22 : decode cX1_lieByAnchor 22 = .ok (.invokevirtual 131, 3) := by decide +kernel
theorem dX1_lieByAnchor_25 : decode cX1_lieByAnchor 25 = .ok (.aload_n 0, 1) := by decide +kernel
theorem dX1_lieByAnchor_26 : decode cX1_lieByAnchor 26 = .ok (.getfield 25, 3) := by decide +kernel
theorem dX1_lieByAnchor_29 : decode cX1_lieByAnchor 29 = .ok (.getfield 135, 3) := by decide +kernel
theorem dX1_lieByAnchor_32 : decode cX1_lieByAnchor 32 = .ok (.aload_n 0, 1) := by decide +kernel
theorem dX1_lieByAnchor_33 : decode cX1_lieByAnchor 33 = .ok (.getfield 21, 3) := by decide +kernel
theorem dX1_lieByAnchor_36 : decode cX1_lieByAnchor 36 = .ok (.invokevirtual 139, 3) := by decide +kernel
theorem dX1_lieByAnchor_39 : decode cX1_lieByAnchor 39 = .ok (.aload_n 0, 1) := by decide +kernel
theorem dX1_lieByAnchor_40 : decode cX1_lieByAnchor 40 = .ok (.getfield 25, 3) := by decide +kernel
theorem dX1_lieByAnchor_43 : decode cX1_lieByAnchor 43 = .ok (.getfield 135, 3) := by decide +kernel
theorem dX1_lieByAnchor_46 : decode cX1_lieByAnchor 46 = .ok (.aload_n 0, 1) := by decide +kernel
theorem dX1_lieByAnchor_47 : decode cX1_lieByAnchor 47 = .ok (.getfield 21, 3) := by decide +kernel
theorem dX1_lieByAnchor_50 : decode cX1_lieByAnchor 50 = .ok (.invokevirtual 145, 3) := by decide +kernel
theorem dX1_lieByAnchor_53 : decode cX1_lieByAnchor 53 = .ok (.ifCond .eq 38, 3) := by decide +kernel
theorem dX1_lieByAnchor_56 : decode cX1_lieByAnchor 56 = .ok (.aload_n 1, 1) := by decide +kernel
theorem dX1_lieByAnchor_57 : decode cX1_lieByAnchor 57 = .ok (.dup, 1) := by decide +kernel
theorem dX1_lieByAnchor_58 : decode cX1_lieByAnchor 58 = .ok (.getfield 125, 3) := by decide +kernel
theorem dX1_lieByAnchor_61 : decode cX1_lieByAnchor 61 = .ok (.iconst 1, 1) := by decide +kernel
theorem dX1_lieByAnchor_62 : decode cX1_lieByAnchor 62 = .ok (.iadd, 1) := by decide +kernel
theorem dX1_lieByAnchor_63 : decode cX1_lieByAnchor 63 = .ok (.putfield 125, 3) := by decide +kernel
theorem dX1_lieByAnchor_66 : decode cX1_lieByAnchor 66 = .ok (.aload_n 1, 1) := by decide +kernel
theorem dX1_lieByAnchor_67 : decode cX1_lieByAnchor 67 = .ok (.aload_n 1, 1) := by decide +kernel
theorem dX1_lieByAnchor_68 : decode cX1_lieByAnchor 68 = .ok (.getfield 112, 3) := by decide +kernel
theorem dX1_lieByAnchor_71 : decode cX1_lieByAnchor 71 = .ok (.aload_n 0, 1) := by decide +kernel
theorem dX1_lieByAnchor_72 : decode cX1_lieByAnchor 72 = .ok (.getfield 25, 3) := by decide +kernel
theorem dX1_lieByAnchor_75 : decode cX1_lieByAnchor 75 = .ok (.getfield 135, 3) := by decide +kernel
theorem dX1_lieByAnchor_78 : decode cX1_lieByAnchor 78 = .ok (.aload_n 0, 1) := by decide +kernel
theorem dX1_lieByAnchor_79 : decode cX1_lieByAnchor 79 = .ok (.getfield 21, 3) := by decide +kernel
theorem dX1_lieByAnchor_82 : decode cX1_lieByAnchor 82 = .ok (.invokevirtual 149, 3) := by decide +kernel
theorem dX1_lieByAnchor_85 : decode cX1_lieByAnchor 85 = .ok (.invokevirtual 87, 3) := by decide +kernel
theorem dX1_lieByAnchor_88 : decode cX1_lieByAnchor 88 = .ok (.goto 21, 3) := by decide +kernel
theorem dX1_lieByAnchor_91 : decode cX1_lieByAnchor 91 = .ok (.aload_n 1, 1) := by decide +kernel
theorem dX1_lieByAnchor_92 : decode cX1_lieByAnchor 92 = .ok (.dup, 1) := by decide +kernel
theorem dX1_lieByAnchor_93 : decode cX1_lieByAnchor 93 = .ok (.getfield 63, 3) := by decide +kernel
theorem dX1_lieByAnchor_96 : decode cX1_lieByAnchor 96 = .ok (.iconst 1, 1) := by decide +kernel
theorem dX1_lieByAnchor_97 : decode cX1_lieByAnchor 97 = .ok (.iadd, 1) := by decide +kernel
theorem dX1_lieByAnchor_98 : decode cX1_lieByAnchor 98 = .ok (.putfield 63, 3) := by decide +kernel
theorem dX1_lieByAnchor_101 : decode cX1_lieByAnchor 101 = .ok (.aload_n 1, 1) := by decide +kernel
theorem dX1_lieByAnchor_102 : decode cX1_lieByAnchor 102 = .ok (.aload_n 1, 1) := by decide +kernel
theorem dX1_lieByAnchor_103 : decode cX1_lieByAnchor 103 = .ok (.getfield 112, 3) := by decide +kernel
theorem dX1_lieByAnchor_106 : decode cX1_lieByAnchor 106 = .ok (.invokevirtual 153, 3) := by decide +kernel
theorem dX1_lieByAnchor_109 : decode cX1_lieByAnchor 109 = .ok (.return_, 1) := by decide +kernel
theorem dX2_init_0 : decode cX2_init 0 = .ok (.aload_n 0, 1) := by decide +kernel
theorem dX2_init_1 : decode cX2_init 1 = .ok (.invokespecial 3, 3) := by decide +kernel
theorem dX2_init_4 : decode cX2_init 4 = .ok (.aload_n 0, 1) := by decide +kernel
theorem dX2_init_5 : decode cX2_init 5 = .ok (.bipush 20, 2) := by decide +kernel
theorem dX2_init_7 : decode cX2_init 7 = .ok (.newarray .int, 2) := by decide +kernel
theorem dX2_init_9 : decode cX2_init 9 = .ok (.putfield 9, 3) := by decide +kernel
theorem dX2_init_12 : decode cX2_init 12 = .ok (.aload_n 0, 1) := by decide +kernel
theorem dX2_init_13 : decode cX2_init 13 = .ok (.bipush 20, 2) := by decide +kernel
theorem dX2_init_15 : decode cX2_init 15 = .ok (.newarray .int, 2) := by decide +kernel
theorem dX2_init_17 : decode cX2_init 17 = .ok (.putfield 15, 3) := by decide +kernel
theorem dX2_init_20 : decode cX2_init 20 = .ok (.aload_n 0, 1) := by decide +kernel
theorem dX2_init_21 : decode cX2_init 21 = .ok (.bipush 20, 2) := by decide +kernel
theorem dX2_init_23 : decode cX2_init 23 = .ok (.newarray .int, 2) := by decide +kernel
theorem dX2_init_25 : decode cX2_init 25 = .ok (.putfield 18, 3) := by decide +kernel
theorem dX2_init_28 : decode cX2_init 28 = .ok (.aload_n 0, 1) := by decide +kernel
theorem dX2_init_29 : decode cX2_init 29 = .ok (.bipush 20, 2) := by decide +kernel
theorem dX2_init_31 : decode cX2_init 31 = .ok (.newarray .int, 2) := by decide +kernel
theorem dX2_init_33 : decode cX2_init 33 = .ok (.putfield 21, 3) := by decide +kernel
theorem dX2_init_36 : decode cX2_init 36 = .ok (.aload_n 0, 1) := by decide +kernel
theorem dX2_init_37 : decode cX2_init 37 = .ok (.aload_n 1, 1) := by decide +kernel
theorem dX2_init_38 : decode cX2_init 38 = .ok (.putfield 24, 3) := by decide +kernel
theorem dX2_init_41 : decode cX2_init 41 = .ok (.return_, 1) := by decide +kernel
theorem dX2_clear_0 : decode cX2_clear 0 = .ok (.aload_n 0, 1) := by decide +kernel
theorem dX2_clear_1 : decode cX2_clear 1 = .ok (.iconst 0, 1) := by decide +kernel
theorem dX2_clear_2 : decode cX2_clear 2 = .ok (.putfield 28, 3) := by decide +kernel
theorem dX2_clear_5 : decode cX2_clear 5 = .ok (.return_, 1) := by decide +kernel
set_option maxRecDepth 20000 in
theorem ggX2_sailed_X2_add : GoodIn wsX2_sailed wsX2_add := goodIn_r _ [5, 6, 7, 8, 9, 10, 11, 12, 13, 14, 4, 15, 16, 17, 18, 19, 20, 21, 22, 23, 24, 25, 26, 27, 28, 29, 30, 31, 32, 33] rfl (by decide +kernel)
set_option maxRecDepth 20000 in
theorem gX2_sailed_X2_add : GoodIn wsX2_sailed (wsV RX2 32 RX2 yX2_add wsX2_add) := goodIn_app (goodIn_r _ [1, 2, 3, 4] rfl (by decide +kernel)) ggX2_sailed_X2_add
theorem dX2_sailed_0 : decode cX2_sailed 0 = .ok (.aload_n 0, 1) := by decide +kernel
theorem dX2_sailed_1 : decode cX2_sailed 1 = .ok (.iconst 0, 1) := by decide +kernel
theorem dX2_sailed_2 : decode cX2_sailed 2 = .ok (.iload_n 1, 1) := by decide +kernel
theorem dX2_sailed_3 : decode cX2_sailed 3 = .ok (.invokevirtual 32, 3) := by decide +kernel
theorem dX2_sailed_6 : decode cX2_sailed 6 = .ok (.return_, 1) := by decide +kernel
set_option maxRecDepth 20000 in
theorem ggX2_wasKind_X2_add : GoodIn wsX2_wasKind wsX2_add := goodIn_r _ [5, 6, 7, 8, 9, 10, 11, 12, 13, 14, 4, 15, 16, 17, 18, 19, 20, 21, 22, 23, 24, 25, 26, 27, 28, 29, 30, 31, 32, 33] rfl (by decide +kernel)
set_option maxRecDepth 20000 in
theorem gX2_wasKind_X2_add : GoodIn wsX2_wasKind (wsV RX2 32 RX2 yX2_add wsX2_add) := goodIn_app (goodIn_r _ [1, 2, 3, 4] rfl (by decide +kernel)) ggX2_wasKind_X2_add
theorem dX2_wasKind_0 : decode cX2_wasKind 0 = .ok (.aload_n 0, 1) := by decide +kernel
theorem dX2_wasKind_1 : decode cX2_wasKind 1 = .ok (.iconst 1, 1) := by decide +kernel
theorem dX2_wasKind_2 : decode cX2_wasKind 2 = .ok (.iload_n 1, 1) := by decide +kernel
theorem dX2_wasKind_3 : decode cX2_wasKind 3 = .ok (.invokevirtual 32, 3) := by decide +kernel
theorem dX2_wasKind_6 : decode cX2_wasKind 6 = .ok (.return_, 1) := by decide +kernel
set_option maxRecDepth 20000 in
theorem ggX2_copied_X2_add : GoodIn wsX2_copied wsX2_add := goodIn_r _ [5, 6, 7, 8, 9, 10, 11, 12, 13, 14, 4, 15, 16, 17, 18, 19, 20, 21, 22, 23, 24, 25, 26, 27, 28, 29, 30, 31, 32, 33] rfl (by decide +kernel)
set_option maxRecDepth 20000 in
theorem gX2_copied_X2_add : GoodIn wsX2_copied (wsV RX2 32 RX2 yX2_add wsX2_add) := goodIn_app (goodIn_r _ [1, 2, 3, 4] rfl (by decide +kernel)) ggX2_copied_X2_add
theorem dX2_copied_0 : decode cX2_copied 0 = .ok (.aload_n 0, 1) := by decide +kernel
theorem dX2_copied_1 : decode cX2_copied 1 = .ok (.iconst 2, 1) := by decide +kernel
theorem dX2_copied_2 : decode cX2_copied 2 = .ok (.iconst 0, 1) := by decide +kernel
theorem dX2_copied_3 : decode cX2_copied 3 = .ok (.invokevirtual 32, 3) := by decide +kernel
theorem dX2_copied_6 : decode cX2_copied 6 = .ok (.return_, 1) := by decide +kernel
set_option maxRecDepth 20000 in
theorem ggX2_add_X2_forgetFirst : GoodIn wsX2_add wsX2_forgetFirst := goodIn_r _ [11, 2, 3, 4, 6, 1, 12, 13, 14, 15, 16, 17] rfl (by decide +kernel)
set_option maxRecDepth 20000 in
theorem gX2_add_X2_forgetFirst : GoodIn wsX2_add (wsV RX2 36 RX2 yX2_forgetFirst wsX2_forgetFirst) := goodIn_app (goodIn_r _ [7, 8, 9, 10] rfl (by decide +kernel)) ggX2_add_X2_forgetFirst
theorem dX2_add_0 : decode cX2_add 0 = .ok (.iload_n 2, 1) := by decide +kernel
theorem dX2_add_1 : decode cX2_add 1 = .ok (.ifCond .lt 9, 3) := by decide +kernel
theorem dX2_add_4 : decode cX2_add 4 = .ok (.iload_n 2, 1) := by decide +kernel
theorem dX2_add_5 : decode cX2_add 5 = .ok (.bipush 8, 2) := by decide +kernel
theorem dX2_add_7 : decode cX2_add 7 = .ok (.if_icmp .lt 4, 3) := by decide +kernel
theorem dX2_add_10 : decode cX2_add 10 = .ok (.return_, 1) := by decide +kernel
theorem dX2_add_11 : decode cX2_add 11 = .ok (.aload_n 0, 1) := by decide +kernel
theorem dX2_add_12 : decode cX2_add 12 = .ok (.getfield 28, 3) := by decide +kernel
theorem dX2_add_15 : decode cX2_add 15 = .ok (.bipush 20, 2) := by decide +kernel
theorem dX2_add_17 : decode cX2_add 17 = .ok (.if_icmp .lt 7, 3) := by decide +kernel
theorem dX2_add_20 : decode cX2_add 20 = .ok (.aload_n 0, 1) := by decide +kernel
theorem dX2_add_21 : decode cX2_add 21 = .ok (.invokevirtual 36, 3) := by decide +kernel
theorem dX2_add_24 : decode cX2_add 24 = .ok (.aload_n 0, 1) := by decide +kernel
theorem dX2_add_25 : decode cX2_add 25 = .ok (.getfield 9, 3) := by decide +kernel
theorem dX2_add_28 : decode cX2_add 28 = .ok (.aload_n 0, 1) := by decide +kernel
theorem dX2_add_29 : decode cX2_add 29 = .ok (.getfield 28, 3) := by decide +kernel
theorem dX2_add_32 : decode cX2_add 32 = .ok (.iload_n 1, 1) := by decide +kernel
theorem dX2_add_33 : decode cX2_add 33 = .ok (.iastore, 1) := by decide +kernel
theorem dX2_add_34 : decode cX2_add 34 = .ok (.aload_n 0, 1) := by decide +kernel
theorem dX2_add_35 : decode cX2_add 35 = .ok (.getfield 15, 3) := by decide +kernel
theorem dX2_add_38 : decode cX2_add 38 = .ok (.aload_n 0, 1) := by decide +kernel
theorem dX2_add_39 : decode cX2_add 39 = .ok (.getfield 28, 3) := by decide +kernel
theorem dX2_add_42 : decode cX2_add 42 = .ok (.iload_n 2, 1) := by decide +kernel
theorem dX2_add_43 : decode cX2_add 43 = .ok (.iastore, 1) := by decide +kernel
theorem dX2_add_44 : decode cX2_add 44 = .ok (.aload_n 0, 1) := by decide +kernel
theorem dX2_add_45 : decode cX2_add 45 = .ok (.getfield 18, 3) := by decide +kernel
theorem dX2_add_48 : decode cX2_add 48 = .ok (.aload_n 0, 1) := by decide +kernel
theorem dX2_add_49 : decode cX2_add 49 = .ok (.getfield 28, 3) := by decide +kernel
theorem dX2_add_52 : decode cX2_add 52 = .ok (.aload_n 0, 1) := by decide +kernel
theorem dX2_add_53 : decode cX2_add 53 = .ok (.getfield 24, 3) := by decide +kernel
theorem dX2_add_56 : decode cX2_add 56 = .ok (.getfield 39, 3) := by decide +kernel
theorem dX2_add_59 : decode cX2_add 59 = .ok (.iload_n 2, 1) := by decide +kernel
theorem dX2_add_60 : decode cX2_add 60 = .ok (.iaload, 1) := by decide +kernel
theorem dX2_add_61 : decode cX2_add 61 = .ok (.iastore, 1) := by decide +kernel
theorem dX2_add_62 : decode cX2_add 62 = .ok (.aload_n 0, 1) := by decide +kernel
theorem dX2_add_63 : decode cX2_add 63 = .ok (.getfield 21, 3) := by decide +kernel
theorem dX2_add_66 : decode cX2_add 66 = .ok (.aload_n 0, 1) := by decide +kernel
theorem dX2_add_67 : decode cX2_add 67 = .ok (.getfield 28, 3) := by decide +kernel
theorem dX2_add_70 : decode cX2_add 70 = .ok (.aload_n 0, 1) := by decide +kernel
theorem dX2_add_71 : decode cX2_add 71 = .ok (.getfield 24, 3) := by decide +kernel
theorem dX2_add_74 : decode cX2_add 74 = .ok (.getfield 42, 3) := by decide +kernel
theorem dX2_add_77 : decode cX2_add 77 = .ok (.iload_n 2, 1) := by decide +kernel
theorem dX2_add_78 : decode cX2_add 78 = .ok (.iaload, 1) := by decide +kernel
theorem dX2_add_79 : decode cX2_add 79 = .ok (.iastore, 1) := by decide +kernel
theorem dX2_add_80 : decode cX2_add 80 = .ok (.aload_n 0, 1) := by decide +kernel
theorem dX2_add_81 : decode cX2_add 81 = .ok (.dup, 1) := by decide +kernel
theorem dX2_add_82 : decode cX2_add 82 = .ok (.getfield 28, 3) := by decide +kernel
theorem dX2_add_85 : decode cX2_add 85 = .ok (.iconst 1, 1) := by decide +kernel
theorem dX2_add_86 : decode cX2_add 86 = .ok (.iadd, 1) := by decide +kernel
theorem dX2_add_87 : decode cX2_add 87 = .ok (.putfield 28, 3) := by decide +kernel
theorem dX2_add_90 : decode cX2_add 90 = .ok (.return_, 1) := by decide +kernel
theorem dX2_forgetFirst_0 : decode cX2_forgetFirst 0 = .ok (.iconst 1, 1) := by decide +kernel
theorem dX2_forgetFirst_1 : decode cX2_forgetFirst 1 = .ok (.istore_n 1, 1) := by decide +kernel
theorem dX2_forgetFirst_2 : decode cX2_forgetFirst 2 = .ok (.iload_n 1, 1) := by decide +kernel
theorem dX2_forgetFirst_3 : decode cX2_forgetFirst 3 = .ok (.bipush 20, 2) := by decide +kernel
theorem dX2_forgetFirst_5 : decode cX2_forgetFirst 5 = .ok (.if_icmp .ge 65, 3) := by decide +kernel
theorem dX2_forgetFirst_8 : decode cX2_forgetFirst 8 = .ok (.aload_n 0, 1) := by decide +kernel
theorem dX2_forgetFirst_9 : decode cX2_forgetFirst 9 = .ok (.getfield 9, 3) := by decide +kernel
theorem dX2_forgetFirst_12 : decode cX2_forgetFirst 12 = .ok (.iload_n 1, 1) := by decide +kernel
theorem dX2_forgetFirst_13 : decode cX2_forgetFirst 13 = .ok (.iconst 1, 1) := by decide +kernel
theorem dX2_forgetFirst_14 : decode cX2_forgetFirst 14 = .ok (.isub, 1) := by decide +kernel
theorem dX2_forgetFirst_15 : decode cX2_forgetFirst 15 = .ok (.aload_n 0, 1) := by decide +kernel
theorem dX2_forgetFirst_16 : decode cX2_forgetFirst 16 = .ok (.getfield 9, 3) := by decide +kernel
theorem dX2_forgetFirst_19 : decode cX2_forgetFirst 19 = .ok (.iload_n 1, 1) := by decide +kernel
theorem dX2_forgetFirst_20 : decode cX2_forgetFirst 20 = .ok (.iaload, 1) := by decide +kernel
theorem dX2_forgetFirst_21 : decode cX2_forgetFirst 21 = .ok (.iastore, 1) := by decide +kernel
theorem dX2_forgetFirst_22 : decode cX2_forgetFirst 22 = .ok (.aload_n 0, 1) := by decide +kernel
theorem dX2_forgetFirst_23 : decode cX2_forgetFirst 23 = .ok (.getfield 15, 3) := by decide +kernel
theorem dX2_forgetFirst_26 : decode cX2_forgetFirst 26 = .ok (.iload_n 1, 1) := by decide +kernel
theorem dX2_forgetFirst_27 : decode cX2_forgetFirst 27 = .ok (.iconst 1, 1) := by decide +kernel
theorem dX2_forgetFirst_28 : decode cX2_forgetFirst 28 = .ok (.isub, 1) := by decide +kernel
theorem dX2_forgetFirst_29 : decode cX2_forgetFirst 29 = .ok (.aload_n 0, 1) := by decide +kernel
theorem dX2_forgetFirst_30 : decode cX2_forgetFirst 30 = .ok (.getfield 15, 3) := by decide +kernel
theorem dX2_forgetFirst_33 : decode cX2_forgetFirst 33 = .ok (.iload_n 1, 1) := by decide +kernel
theorem dX2_forgetFirst_34 : decode cX2_forgetFirst 34 = .ok (.iaload, 1) := by decide +kernel
theorem dX2_forgetFirst_35 : decode cX2_forgetFirst 35 = .ok (.iastore, 1) := by decide +kernel
theorem dX2_forgetFirst_36 : decode cX2_forgetFirst 36 = .ok (.aload_n 0, 1) := by decide +kernel
theorem dX2_forgetFirst_37 : decode cX2_forgetFirst 37 = .ok (.getfield 18, 3) := by decide +kernel
theorem dX2_forgetFirst_40 : decode cX2_forgetFirst 40 = .ok (.iload_n 1, 1) := by decide +kernel
theorem dX2_forgetFirst_41 : decode cX2_forgetFirst 41 = .ok (.iconst 1, 1) := by decide +kernel
theorem dX2_forgetFirst_42 : decode cX2_forgetFirst 42 = .ok (.isub, 1) := by decide +kernel
theorem dX2_forgetFirst_43 : decode cX2_forgetFirst 43 = .ok (.aload_n 0, 1) := by decide +kernel
theorem dX2_forgetFirst_44 : decode cX2_forgetFirst 44 = .ok (.getfield 18, 3) := by decide +kernel
theorem dX2_forgetFirst_47 : decode cX2_forgetFirst 47 = .ok (.iload_n 1, 1) := by decide +kernel
theorem dX2_forgetFirst_48 : decode cX2_forgetFirst 48 = .ok (.iaload, 1) := by decide +kernel
theorem dX2_forgetFirst_49 : decode cX2_forgetFirst 49 = .ok (.iastore, 1) := by decide +kernel
theorem dX2_forgetFirst_50 : decode cX2_forgetFirst 50 = .ok (.aload_n 0, 1) := by decide +kernel
theorem dX2_forgetFirst_51 : decode cX2_forgetFirst 51 = .ok (.getfield 21, 3) := by decide +kernel
theorem dX2_forgetFirst_54 : decode cX2_forgetFirst 54 = .ok (.iload_n 1, 1) := by decide +kernel
theorem dX2_forgetFirst_55 : decode cX2_forgetFirst 55 = .ok (.iconst 1, 1) := by decide +kernel
theorem dX2_forgetFirst_56 : decode cX2_forgetFirst 56 = .ok (.isub, 1) := by decide +kernel
theorem dX2_forgetFirst_57 : decode cX2_forgetFirst 57 = .ok (.aload_n 0, 1) := by decide +kernel
theorem dX2_forgetFirst_58 : decode cX2_forgetFirst 58 = .ok (.getfield 21, 3) := by decide +kernel
theorem dX2_forgetFirst_61 : decode cX2_forgetFirst 61 = .ok (.iload_n 1, 1) := by decide +kernel
theorem dX2_forgetFirst_62 : decode cX2_forgetFirst 62 = .ok (.iaload, 1) := by decide +kernel
theorem dX2_forgetFirst_63 : decode cX2_forgetFirst 63 = .ok (.iastore, 1) := by decide +kernel
theorem dX2_forgetFirst_64 : decode cX2_forgetFirst 64 = .ok (.iinc 1 1, 3) := by decide +kernel
theorem dX2_forgetFirst_67 : decode cX2_forgetFirst 67 = .ok (.goto (-65), 3) := by decide +kernel
theorem dX2_forgetFirst_70 : decode cX2_forgetFirst 70 = .ok (.aload_n 0, 1) := by decide +kernel
theorem dX2_forgetFirst_71 : decode cX2_forgetFirst 71 = .ok (.bipush 19, 2) := by decide +kernel
theorem dX2_forgetFirst_73 : decode cX2_forgetFirst 73 = .ok (.putfield 28, 3) := by decide +kernel
theorem dX2_forgetFirst_76 : decode cX2_forgetFirst 76 = .ok (.return_, 1) := by decide +kernel
set_option maxRecDepth 20000 in
theorem ggX2_takeBack_X5_lieIn : GoodIn wsX2_takeBack wsX5_lieIn := goodIn_r _ [11, 12, 13, 14, 21, 22, 23, 24, 25, 26, 27, 28, 29, 30, 31, 32] rfl (by decide +kernel)
set_option maxRecDepth 20000 in
theorem gX2_takeBack_X5_lieIn : GoodIn wsX2_takeBack (wsV RX2 43 RX5 yX5_lieIn wsX5_lieIn) := goodIn_app (goodIn_r _ [7, 8, 9, 10] rfl (by decide +kernel)) ggX2_takeBack_X5_lieIn
theorem dX2_takeBack_0 : decode cX2_takeBack 0 = .ok (.aload_n 0, 1) := by decide +kernel
theorem dX2_takeBack_1 : decode cX2_takeBack 1 = .ok (.getfield 28, 3) := by decide +kernel
theorem dX2_takeBack_4 : decode cX2_takeBack 4 = .ok (.ifCond .le 12, 3) := by decide +kernel
theorem dX2_takeBack_7 : decode cX2_takeBack 7 = .ok (.aload_n 0, 1) := by decide +kernel
theorem dX2_takeBack_8 : decode cX2_takeBack 8 = .ok (.getfield 28, 3) := by decide +kernel
theorem dX2_takeBack_11 : decode cX2_takeBack 11 = .ok (.bipush 20, 2) := by decide +kernel
theorem dX2_takeBack_13 : decode cX2_takeBack 13 = .ok (.if_icmp .le 5, 3) := by decide +kernel
theorem dX2_takeBack_16 : decode cX2_takeBack 16 = .ok (.iconst (-1), 1) := by decide +kernel
theorem dX2_takeBack_17 : decode cX2_takeBack 17 = .ok (.ireturn, 1) := by decide +kernel
theorem dX2_takeBack_18 : decode cX2_takeBack 18 = .ok (.aload_n 0, 1) := by decide +kernel
theorem dX2_takeBack_19 : decode cX2_takeBack 19 = .ok (.dup, 1) := by decide +kernel
theorem dX2_takeBack_20 : decode cX2_takeBack 20 = .ok (.getfield 28, 3) := by decide +kernel
theorem dX2_takeBack_23 : decode cX2_takeBack 23 = .ok (.iconst 1, 1) := by decide +kernel
theorem dX2_takeBack_24 : decode cX2_takeBack 24 = .ok (.isub, 1) := by decide +kernel
theorem dX2_takeBack_25 : decode cX2_takeBack 25 = .ok (.putfield 28, 3) := by decide +kernel
theorem dX2_takeBack_28 : decode cX2_takeBack 28 = .ok (.aload_n 0, 1) := by decide +kernel
theorem dX2_takeBack_29 : decode cX2_takeBack 29 = .ok (.getfield 15, 3) := by decide +kernel
theorem dX2_takeBack_32 : decode cX2_takeBack 32 = .ok (.aload_n 0, 1) := by decide +kernel
theorem dX2_takeBack_33 : decode cX2_takeBack 33 = .ok (.getfield 28, 3) := by decide +kernel
theorem dX2_takeBack_36 : decode cX2_takeBack 36 = .ok (.iaload, 1) := by decide +kernel
theorem dX2_takeBack_37 : decode cX2_takeBack 37 = .ok (.istore_n 1, 1) := by decide +kernel
theorem dX2_takeBack_38 : decode cX2_takeBack 38 = .ok (.aload_n 0, 1) := by decide +kernel
theorem dX2_takeBack_39 : decode cX2_takeBack 39 = .ok (.getfield 9, 3) := by decide +kernel
theorem dX2_takeBack_42 : decode cX2_takeBack 42 = .ok (.aload_n 0, 1) := by decide +kernel
theorem dX2_takeBack_43 : decode cX2_takeBack 43 = .ok (.getfield 28, 3) := by decide +kernel
theorem dX2_takeBack_46 : decode cX2_takeBack 46 = .ok (.iaload, 1) := by decide +kernel
theorem dX2_takeBack_47 : decode cX2_takeBack 47 = .ok (.ifCond .ne 14, 3) := by decide +kernel
theorem dX2_takeBack_50 : decode cX2_takeBack 50 = .ok (.aload_n 0, 1) := by decide +kernel
theorem dX2_takeBack_51 : decode cX2_takeBack 51 = .ok (.getfield 24, 3) := by decide +kernel
theorem dX2_takeBack_54 : decode cX2_takeBack 54 = .ok (.iload_n 1, 1) := by decide +kernel
theorem dX2_takeBack_55 : decode cX2_takeBack 55 = .ok (.invokevirtual 43, 3) := by decide +kernel
theorem dX2_takeBack_58 : decode cX2_takeBack 58 = .ok (.goto 100, 3) := by decide +kernel
theorem dX2_takeBack_61 : decode cX2_takeBack 61 = .ok (.aload_n 0, 1) := by decide +kernel
theorem dX2_takeBack_62 : decode cX2_takeBack 62 = .ok (.getfield 9, 3) := by decide +kernel
theorem dX2_takeBack_65 : decode cX2_takeBack 65 = .ok (.aload_n 0, 1) := by decide +kernel
theorem dX2_takeBack_66 : decode cX2_takeBack 66 = .ok (.getfield 28, 3) := by decide +kernel
theorem dX2_takeBack_69 : decode cX2_takeBack 69 = .ok (.iaload, 1) := by decide +kernel
theorem dX2_takeBack_70 : decode cX2_takeBack 70 = .ok (.iconst 2, 1) := by decide +kernel
theorem dX2_takeBack_71 : decode cX2_takeBack 71 = .ok (.if_icmp .ne 28, 3) := by decide +kernel
theorem dX2_takeBack_74 : decode cX2_takeBack 74 = .ok (.aload_n 0, 1) := by decide +kernel
theorem dX2_takeBack_75 : decode cX2_takeBack 75 = .ok (.getfield 24, 3) := by decide +kernel
theorem dX2_takeBack_78 : decode cX2_takeBack 78 = .ok (.aload_n 0, 1) := by decide +kernel
theorem dX2_takeBack_79 : decode cX2_takeBack 79 = .ok (.getfield 24, 3) := by decide +kernel
theorem dX2_takeBack_82 : decode cX2_takeBack 82 = .ok (.getfield 47, 3) := by decide +kernel
theorem dX2_takeBack_85 : decode cX2_takeBack 85 = .ok (.ifCond .ne 7, 3) := by decide +kernel
theorem dX2_takeBack_88 : decode cX2_takeBack 88 = .ok (.iconst 1, 1) := by decide +kernel
theorem dX2_takeBack_89 : decode cX2_takeBack 89 = .ok (.goto 4, 3) := by decide +kernel
theorem dX2_takeBack_92 : decode cX2_takeBack 92 = .ok (.iconst 0, 1) := by decide +kernel
theorem dX2_takeBack_93 : decode cX2_takeBack 93 = .ok (.putfield 47, 3) := by decide +kernel
theorem dX2_takeBack_96 : decode cX2_takeBack 96 = .ok (.goto 62, 3) := by decide +kernel
theorem dX2_takeBack_99 : decode cX2_takeBack 99 = .ok (.iload_n 1, 1) := by decide +kernel
theorem dX2_takeBack_100 : decode cX2_takeBack 100 = .ok (.ifCond .lt 58, 3) := by decide +kernel
theorem dX2_takeBack_103 : decode cX2_takeBack 103 = .ok (.iload_n 1, 1) := by decide +kernel
theorem dX2_takeBack_104 : decode cX2_takeBack 104 = .ok (.bipush 8, 2) := by decide +kernel
theorem dX2_takeBack_106 : decode cX2_takeBack 106 = .ok (.if_icmp .ge 52, 3) := by decide +kernel
theorem dX2_takeBack_109 : decode cX2_takeBack 109 = .ok (.aload_n 0, 1) := by decide +kernel
theorem dX2_takeBack_110 : decode cX2_takeBack 110 = .ok (.getfield 24, 3) := by decide +kernel
theorem dX2_takeBack_113 : decode cX2_takeBack 113 = .ok (.getfield 39, 3) := by decide +kernel
theorem dX2_takeBack_116 : decode cX2_takeBack 116 = .ok (.iload_n 1, 1) := by decide +kernel
theorem dX2_takeBack_117 : decode cX2_takeBack 117 = .ok (.aload_n 0, 1) := by decide +kernel
theorem dX2_takeBack_118 : decode cX2_takeBack 118 = .ok (.getfield 18, 3) := by decide +kernel
theorem dX2_takeBack_121 : decode cX2_takeBack 121 = .ok (.aload_n 0, 1) := by decide +kernel
theorem dX2_takeBack_122 : decode cX2_takeBack 122 = .ok (.getfield 28, 3) := by decide +kernel
theorem dX2_takeBack_125 : decode cX2_takeBack 125 = .ok (.iaload, 1) := by decide +kernel
theorem dX2_takeBack_126 : decode cX2_takeBack 126 = .ok (.iastore, 1) := by decide +kernel
theorem dX2_takeBack_127 : decode cX2_takeBack 127 = .ok (.aload_n 0, 1) := by decide +kernel
theorem dX2_takeBack_128 : decode cX2_takeBack 128 = .ok (.getfield 24, 3) := by decide +kernel
theorem dX2_takeBack_131 : decode cX2_takeBack 131 = .ok (.getfield 51, 3) := by decide +kernel
theorem dX2_takeBack_134 : decode cX2_takeBack 134 = .ok (.iload_n 1, 1) := by decide +kernel
theorem dX2_takeBack_135 : decode cX2_takeBack 135 = .ok (.dup2, 1) := by decide +kernel
theorem dX2_takeBack_136 : decode cX2_takeBack 136 = .ok (.iaload, 1) := by decide +kernel
theorem dX2_takeBack_137 : decode cX2_takeBack 137 = .ok (.iconst 1, 1) := by decide +kernel
theorem dX2_takeBack_138 : decode cX2_takeBack 138 = .ok (.isub, 1) := by decide +kernel
theorem dX2_takeBack_139 : decode cX2_takeBack 139 = .ok (.iastore, 1) := by decide +kernel
theorem dX2_takeBack_140 : decode cX2_takeBack 140 = .ok (.aload_n 0, 1) := by decide +kernel
theorem dX2_takeBack_141 : decode cX2_takeBack 141 = .ok (.getfield 24, 3) := by decide +kernel
theorem dX2_takeBack_144 : decode cX2_takeBack 144 = .ok (.getfield 42, 3) := by decide +kernel
theorem dX2_takeBack_147 : decode cX2_takeBack 147 = .ok (.iload_n 1, 1) := by decide +kernel
theorem dX2_takeBack_148 : decode cX2_takeBack 148 = .ok (.aload_n 0, 1) := by decide +kernel
theorem dX2_takeBack_149 : decode cX2_takeBack 149 = .ok (.getfield 21, 3) := by decide +kernel
theorem dX2_takeBack_152 : decode cX2_takeBack 152 = .ok (.aload_n 0, 1) := by decide +kernel
theorem dX2_takeBack_153 : decode cX2_takeBack 153 = .ok (.getfield 28, 3) := by decide +kernel
theorem dX2_takeBack_156 : decode cX2_takeBack 156 = .ok (.iaload, 1) := by decide +kernel
theorem dX2_takeBack_157 : decode cX2_takeBack 157 = .ok (.iastore, 1) := by decide +kernel
theorem dX2_takeBack_158 : decode cX2_takeBack 158 = .ok (.aload_n 0, 1) := by decide +kernel
theorem dX2_takeBack_159 : decode cX2_takeBack 159 = .ok (.getfield 28, 3) := by decide +kernel
theorem dX2_takeBack_162 : decode cX2_takeBack 162 = .ok (.ireturn, 1) := by decide +kernel
set_option maxRecDepth 20000 in
theorem ggX3_init_X8_init : GoodIn wsX3_init wsX8_init := goodIn_r _ [14, 15, 2, 3] rfl (by decide +kernel)
set_option maxRecDepth 20000 in
theorem gX3_init_X8_init_n11 : GoodIn wsX3_init (wsX8_init) := ggX3_init_X8_init
theorem dX3_init_0 : decode cX3_init 0 = .ok (.aload_n 0, 1) := by decide +kernel
theorem dX3_init_1 : decode cX3_init 1 = .ok (.invokespecial 3, 3) := by decide +kernel
theorem dX3_init_4 : decode cX3_init 4 = .ok (.aload_n 0, 1) := by decide +kernel
theorem dX3_init_5 : decode cX3_init 5 = .ok (.new 9, 3) := by decide +kernel
theorem dX3_init_8 : decode cX3_init 8 = .ok (.dup, 1) := by decide +kernel
theorem dX3_init_9 : decode cX3_init 9 = .ok (.invokespecial 11, 3) := by decide +kernel
theorem dX3_init_12 : decode cX3_init 12 = .ok (.putfield 12, 3) := by decide +kernel
theorem dX3_init_15 : decode cX3_init 15 = .ok (.aload_n 0, 1) := by decide +kernel
theorem dX3_init_16 : decode cX3_init 16 = .ok (.bipush 8, 2) := by decide +kernel
theorem dX3_init_18 : decode cX3_init 18 = .ok (.newarray .int, 2) := by decide +kernel
theorem dX3_init_20 : decode cX3_init 20 = .ok (.putfield 18, 3) := by decide +kernel
theorem dX3_init_23 : decode cX3_init 23 = .ok (.aload_n 0, 1) := by decide +kernel
theorem dX3_init_24 : decode cX3_init 24 = .ok (.bipush 64, 2) := by decide +kernel
theorem dX3_init_26 : decode cX3_init 26 = .ok (.newarray .int, 2) := by decide +kernel
theorem dX3_init_28 : decode cX3_init 28 = .ok (.putfield 22, 3) := by decide +kernel
theorem dX3_init_31 : decode cX3_init 31 = .ok (.aload_n 0, 1) := by decide +kernel
theorem dX3_init_32 : decode cX3_init 32 = .ok (.aload_n 1, 1) := by decide +kernel
theorem dX3_init_33 : decode cX3_init 33 = .ok (.putfield 25, 3) := by decide +kernel
theorem dX3_init_36 : decode cX3_init 36 = .ok (.aload_n 0, 1) := by decide +kernel
theorem dX3_init_37 : decode cX3_init 37 = .ok (.aload_n 2, 1) := by decide +kernel
theorem dX3_init_38 : decode cX3_init 38 = .ok (.putfield 29, 3) := by decide +kernel
theorem dX3_init_41 : decode cX3_init 41 = .ok (.return_, 1) := by decide +kernel
set_option maxRecDepth 20000 in
theorem ggX3_moodOf_X8_recall : GoodIn wsX3_moodOf wsX8_recall := goodIn_r _ [8, 9, 10, 11, 12, 13, 14, 7, 15, 107, 108, 109, 110, 111, 112, 113, 114, 115, 116, 117, 118, 99, 100, 101, 102, 103, 104, 105, 106] rfl (by decide +kernel)
set_option maxRecDepth 20000 in
theorem gX3_moodOf_X8_recall : GoodIn wsX3_moodOf (wsV RX3 33 RX8 yX8_recall wsX8_recall) := goodIn_app (goodIn_r _ [4, 5, 6, 7] rfl (by decide +kernel)) ggX3_moodOf_X8_recall
set_option maxRecDepth 20000 in
theorem ggX3_moodOf_X3_addDeeds : GoodIn wsX3_moodOf wsX3_addDeeds := goodIn_r _ [20, 3, 2, 1, 21, 22, 23, 7, 24, 9, 25, 26, 27, 28, 10, 11, 29, 30, 31, 32, 33, 34, 35, 36, 37, 38, 39, 40, 41, 42, 43, 44, 45, 46, 79, 80, 81, 82, 83, 84, 85, 86, 87, 88, 89, 90, 91, 92, 93, 94, 95, 96, 97, 98, 107, 108, 109, 110, 111, 112, 113, 114, 115, 116, 117, 118, 99, 100, 101, 102, 103, 104, 105, 106] rfl (by decide +kernel)
set_option maxRecDepth 20000 in
theorem gX3_moodOf_X3_addDeeds : GoodIn wsX3_moodOf (wsV RX3 37 RX3 yX3_addDeeds wsX3_addDeeds) := goodIn_app (goodIn_r _ [16, 17, 18, 19] rfl (by decide +kernel)) ggX3_moodOf_X3_addDeeds
set_option maxRecDepth 20000 in
theorem ggX3_moodOf_X4_feel : GoodIn wsX3_moodOf wsX4_feel := goodIn_r _ [51, 52, 53, 54, 55, 27, 56, 57, 58, 59, 60, 61, 62, 50, 63, 64, 65, 66, 67, 68, 69, 70, 71, 7, 72, 9, 46, 10, 44, 43, 73, 45, 74, 75, 76, 77, 78, 99, 100, 101, 102, 103, 104, 105, 106, 119, 120, 121, 122, 123, 124] rfl (by decide +kernel)
set_option maxRecDepth 20000 in
theorem gX3_moodOf_X4_feel : GoodIn wsX3_moodOf (wsV RX3 47 RX4 yX4_feel wsX4_feel) := goodIn_app (goodIn_r _ [47, 48, 49, 50] rfl (by decide +kernel)) ggX3_moodOf_X4_feel
theorem dX3_moodOf_0 : decode cX3_moodOf 0 = .ok (.aload_n 0, 1) := by decide +kernel
theorem dX3_moodOf_1 : decode cX3_moodOf 1 = .ok (.getfield 12, 3) := by decide +kernel
theorem dX3_moodOf_4 : decode cX3_moodOf 4 = .ok (.aload_n 0, 1) := by decide +kernel
theorem dX3_moodOf_5 : decode cX3_moodOf 5 = .ok (.getfield 29, 3) := by decide +kernel
theorem dX3_moodOf_8 : decode cX3_moodOf 8 = .ok (.iload_n 1, 1) := by decide +kernel
theorem dX3_moodOf_9 : decode cX3_moodOf 9 = .ok (.invokevirtual 33, 3) := by decide +kernel
theorem dX3_moodOf_12 : decode cX3_moodOf 12 = .ok (.aload_n 0, 1) := by decide +kernel
theorem dX3_moodOf_13 : decode cX3_moodOf 13 = .ok (.iload_n 1, 1) := by decide +kernel
theorem dX3_moodOf_14 : decode cX3_moodOf 14 = .ok (.iload_n 2, 1) := by decide +kernel
theorem dX3_moodOf_15 : decode cX3_moodOf 15 = .ok (.invokevirtual 37, 3) := by decide +kernel
theorem dX3_moodOf_18 : decode cX3_moodOf 18 = .ok (.aload_n 0, 1) := by decide +kernel
theorem dX3_moodOf_19 : decode cX3_moodOf 19 = .ok (.getfield 25, 3) := by decide +kernel
theorem dX3_moodOf_22 : decode cX3_moodOf 22 = .ok (.getfield 41, 3) := by decide +kernel
theorem dX3_moodOf_25 : decode cX3_moodOf 25 = .ok (.aload_n 0, 1) := by decide +kernel
theorem dX3_moodOf_26 : decode cX3_moodOf 26 = .ok (.getfield 12, 3) := by decide +kernel
theorem dX3_moodOf_29 : decode cX3_moodOf 29 = .ok (.invokevirtual 47, 3) := by decide +kernel
theorem dX3_moodOf_32 : decode cX3_moodOf 32 = .ok (.aload_n 0, 1) := by decide +kernel
theorem dX3_moodOf_33 : decode cX3_moodOf 33 = .ok (.getfield 12, 3) := by decide +kernel
theorem dX3_moodOf_36 : decode cX3_moodOf 36 = .ok (.getfield 53, 3) := by decide +kernel
theorem dX3_moodOf_39 : decode cX3_moodOf 39 = .ok (.ireturn, 1) := by decide +kernel
set_option maxRecDepth 20000 in
theorem ggX3_sees_X8_recall : GoodIn wsX3_sees wsX8_recall := goodIn_r _ [8, 9, 10, 11, 12, 13, 14, 7, 15, 103, 104, 105, 106, 107, 108, 109, 110, 111, 112, 113, 114, 115, 116, 117, 118, 119, 120, 121, 122] rfl (by decide +kernel)
set_option maxRecDepth 20000 in
theorem gX3_sees_X8_recall : GoodIn wsX3_sees (wsV RX3 33 RX8 yX8_recall wsX8_recall) := goodIn_app (goodIn_r _ [4, 5, 6, 7] rfl (by decide +kernel)) ggX3_sees_X8_recall
set_option maxRecDepth 20000 in
theorem ggX3_sees_X3_addDeeds : GoodIn wsX3_sees wsX3_addDeeds := goodIn_r _ [20, 3, 2, 1, 21, 22, 23, 7, 24, 9, 25, 26, 27, 28, 10, 11, 29, 30, 31, 32, 33, 34, 35, 36, 37, 38, 39, 40, 41, 42, 43, 44, 45, 46, 83, 84, 85, 86, 87, 88, 89, 90, 91, 92, 93, 94, 95, 96, 97, 98, 99, 100, 101, 102, 103, 104, 105, 106, 107, 108, 109, 110, 111, 112, 113, 114, 115, 116, 117, 118, 119, 120, 121, 122] rfl (by decide +kernel)
set_option maxRecDepth 20000 in
theorem gX3_sees_X3_addDeeds : GoodIn wsX3_sees (wsV RX3 37 RX3 yX3_addDeeds wsX3_addDeeds) := goodIn_app (goodIn_r _ [16, 17, 18, 19] rfl (by decide +kernel)) ggX3_sees_X3_addDeeds
set_option maxRecDepth 20000 in
theorem ggX3_sees_X4_feel : GoodIn wsX3_sees wsX4_feel := goodIn_r _ [51, 52, 53, 54, 55, 27, 56, 57, 58, 59, 60, 61, 62, 50, 63, 64, 65, 66, 67, 68, 69, 70, 71, 7, 72, 9, 46, 10, 44, 43, 73, 45, 74, 75, 76, 77, 78, 115, 116, 117, 118, 119, 120, 121, 122, 123, 124, 125, 126, 127, 128] rfl (by decide +kernel)
set_option maxRecDepth 20000 in
theorem gX3_sees_X4_feel : GoodIn wsX3_sees (wsV RX3 47 RX4 yX4_feel wsX4_feel) := goodIn_app (goodIn_r _ [47, 48, 49, 50] rfl (by decide +kernel)) ggX3_sees_X4_feel
set_option maxRecDepth 20000 in
theorem ggX3_sees_X4_grips : GoodIn wsX3_sees wsX4_grips := goodIn_r _ [82, 52, 60, 61, 62, 50, 63, 64, 65, 66, 67, 68, 69, 70, 71, 7, 72, 9, 46, 10, 44, 43, 73, 45, 74, 75, 76, 77, 78, 115, 116, 117, 118, 119, 120, 121, 122, 123, 124, 125, 126, 127, 128] rfl (by decide +kernel)
set_option maxRecDepth 20000 in
theorem gX3_sees_X4_grips : GoodIn wsX3_sees (wsV RX3 57 RX4 yX4_grips wsX4_grips) := goodIn_app (goodIn_r _ [79, 80, 81, 50] rfl (by decide +kernel)) ggX3_sees_X4_grips
theorem dX3_sees_0 : decode cX3_sees 0 = .ok (.aload_n 0, 1) := by decide +kernel
theorem dX3_sees_1 : decode cX3_sees 1 = .ok (.getfield 12, 3) := by decide +kernel
theorem dX3_sees_4 : decode cX3_sees 4 = .ok (.aload_n 0, 1) := by decide +kernel
theorem dX3_sees_5 : decode cX3_sees 5 = .ok (.getfield 29, 3) := by decide +kernel
theorem dX3_sees_8 : decode cX3_sees 8 = .ok (.iload_n 1, 1) := by decide +kernel
theorem dX3_sees_9 : decode cX3_sees 9 = .ok (.invokevirtual 33, 3) := by decide +kernel
theorem dX3_sees_12 : decode cX3_sees 12 = .ok (.aload_n 0, 1) := by decide +kernel
theorem dX3_sees_13 : decode cX3_sees 13 = .ok (.iload_n 1, 1) := by decide +kernel
theorem dX3_sees_14 : decode cX3_sees 14 = .ok (.iload_n 2, 1) := by decide +kernel
theorem dX3_sees_15 : decode cX3_sees 15 = .ok (.invokevirtual 37, 3) := by decide +kernel
theorem dX3_sees_18 : decode cX3_sees 18 = .ok (.aload_n 0, 1) := by decide +kernel
theorem dX3_sees_19 : decode cX3_sees 19 = .ok (.getfield 25, 3) := by decide +kernel
theorem dX3_sees_22 : decode cX3_sees 22 = .ok (.getfield 41, 3) := by decide +kernel
theorem dX3_sees_25 : decode cX3_sees 25 = .ok (.aload_n 0, 1) := by decide +kernel
theorem dX3_sees_26 : decode cX3_sees 26 = .ok (.getfield 12, 3) := by decide +kernel
theorem dX3_sees_29 : decode cX3_sees 29 = .ok (.invokevirtual 47, 3) := by decide +kernel
theorem dX3_sees_32 : decode cX3_sees 32 = .ok (.aload_n 0, 1) := by decide +kernel
theorem dX3_sees_33 : decode cX3_sees 33 = .ok (.getfield 25, 3) := by decide +kernel
theorem dX3_sees_36 : decode cX3_sees 36 = .ok (.getfield 41, 3) := by decide +kernel
theorem dX3_sees_39 : decode cX3_sees 39 = .ok (.aload_n 0, 1) := by decide +kernel
theorem dX3_sees_40 : decode cX3_sees 40 = .ok (.getfield 12, 3) := by decide +kernel
theorem dX3_sees_43 : decode cX3_sees 43 = .ok (.invokevirtual 57, 3) := by decide +kernel
theorem dX3_sees_46 : decode cX3_sees 46 = .ok (.ireturn, 1) := by decide +kernel
set_option maxRecDepth 20000 in
theorem ggX3_seesWithKindness_X8_recall : GoodIn wsX3_seesWithKindness wsX8_recall := goodIn_r _ [8, 9, 10, 11, 12, 13, 14, 7, 15, 88, 89, 90, 91, 92, 93, 94, 95, 96, 97, 98, 99, 115, 116, 117, 118, 119, 120, 121, 122] rfl (by decide +kernel)
set_option maxRecDepth 20000 in
theorem gX3_seesWithKindness_X8_recall : GoodIn wsX3_seesWithKindness (wsV RX3 33 RX8 yX8_recall wsX8_recall) := goodIn_app (goodIn_r _ [4, 5, 6, 7] rfl (by decide +kernel)) ggX3_seesWithKindness_X8_recall
set_option maxRecDepth 20000 in
theorem ggX3_seesWithKindness_X8_add : GoodIn wsX3_seesWithKindness wsX8_add := goodIn_r _ [19, 9, 20, 21, 22, 23, 10, 11, 24, 25, 26, 115, 116, 117, 118, 119, 120, 121, 122] rfl (by decide +kernel)
set_option maxRecDepth 20000 in
theorem gX3_seesWithKindness_X8_add : GoodIn wsX3_seesWithKindness (wsV RX3 66 RX8 yX8_add wsX8_add) := goodIn_app (goodIn_r _ [16, 17, 18, 7] rfl (by decide +kernel)) ggX3_seesWithKindness_X8_add
set_option maxRecDepth 20000 in
theorem ggX3_seesWithKindness_X3_addDeeds : GoodIn wsX3_seesWithKindness wsX3_addDeeds := goodIn_r _ [31, 3, 2, 1, 16, 17, 18, 7, 19, 9, 20, 21, 22, 23, 10, 11, 24, 25, 26, 32, 33, 34, 35, 36, 37, 38, 39, 40, 41, 42, 43, 44, 45, 46, 83, 84, 85, 86, 87, 100, 101, 102, 103, 104, 105, 106, 107, 108, 109, 110, 111, 112, 113, 114, 88, 89, 90, 91, 92, 93, 94, 95, 96, 97, 98, 99, 115, 116, 117, 118, 119, 120, 121, 122] rfl (by decide +kernel)
set_option maxRecDepth 20000 in
theorem gX3_seesWithKindness_X3_addDeeds : GoodIn wsX3_seesWithKindness (wsV RX3 37 RX3 yX3_addDeeds wsX3_addDeeds) := goodIn_app (goodIn_r _ [27, 28, 29, 30] rfl (by decide +kernel)) ggX3_seesWithKindness_X3_addDeeds
set_option maxRecDepth 20000 in
theorem ggX3_seesWithKindness_X4_feel : GoodIn wsX3_seesWithKindness wsX4_feel := goodIn_r _ [51, 52, 53, 54, 55, 22, 56, 57, 58, 59, 60, 61, 62, 50, 63, 64, 65, 66, 67, 68, 69, 70, 71, 7, 72, 9, 46, 10, 44, 43, 73, 45, 74, 75, 76, 77, 78, 115, 116, 117, 118, 119, 120, 121, 122, 123, 124, 125, 126, 127, 128] rfl (by decide +kernel)
set_option maxRecDepth 20000 in
theorem gX3_seesWithKindness_X4_feel : GoodIn wsX3_seesWithKindness (wsV RX3 47 RX4 yX4_feel wsX4_feel) := goodIn_app (goodIn_r _ [47, 48, 49, 50] rfl (by decide +kernel)) ggX3_seesWithKindness_X4_feel
set_option maxRecDepth 20000 in
theorem ggX3_seesWithKindness_X4_grips : GoodIn wsX3_seesWithKindness wsX4_grips := goodIn_r _ [82, 52, 60, 61, 62, 50, 63, 64, 65, 66, 67, 68, 69, 70, 71, 7, 72, 9, 46, 10, 44, 43, 73, 45, 74, 75, 76, 77, 78, 115, 116, 117, 118, 119, 120, 121, 122, 123, 124, 125, 126, 127, 128] rfl (by decide +kernel)
set_option maxRecDepth 20000 in
theorem gX3_seesWithKindness_X4_grips : GoodIn wsX3_seesWithKindness (wsV RX3 57 RX4 yX4_grips wsX4_grips) := goodIn_app (goodIn_r _ [79, 80, 81, 50] rfl (by decide +kernel)) ggX3_seesWithKindness_X4_grips
theorem dX3_seesWithKindness_0 : decode cX3_seesWithKindness 0 = .ok (.aload_n 0, 1) := by decide +kernel
theorem dX3_seesWithKindness_1 : decode cX3_seesWithKindness 1 = .ok (.getfield 12, 3) := by decide +kernel
theorem dX3_seesWithKindness_4 : decode cX3_seesWithKindness 4 = .ok (.aload_n 0, 1) := by decide +kernel
theorem dX3_seesWithKindness_5 : decode cX3_seesWithKindness 5 = .ok (.getfield 29, 3) := by decide +kernel
theorem dX3_seesWithKindness_8 : decode cX3_seesWithKindness 8 = .ok (.iload_n 1, 1) := by decide +kernel
theorem dX3_seesWithKindness_9 : decode cX3_seesWithKindness 9 = .ok (.invokevirtual 33, 3) := by decide +kernel
theorem dX3_seesWithKindness_12 : decode cX3_seesWithKindness 12 = .ok (.aload_n 0, 1) := by decide +kernel
theorem dX3_seesWithKindness_13 : decode cX3_seesWithKindness 13 = .ok (.getfield 12, 3) := by decide +kernel
theorem dX3_seesWithKindness_16 : decode cX3_seesWithKindness 16 = .ok (.iload_n 3, 1) := by decide +kernel
theorem dX3_seesWithKindness_17 : decode cX3_seesWithKindness 17 = .ok (.aload_n 0, 1) := by decide +kernel
theorem dX3_seesWithKindness_18 : decode cX3_seesWithKindness 18 = .ok (.getfield 29, 3) := by decide +kernel
theorem dX3_seesWithKindness_21 : decode cX3_seesWithKindness 21 = .ok (.getfield 61, 3) := by decide +kernel
theorem dX3_seesWithKindness_24 : decode cX3_seesWithKindness 24 = .ok (.invokevirtual 66, 3) := by decide +kernel
theorem dX3_seesWithKindness_27 : decode cX3_seesWithKindness 27 = .ok (.aload_n 0, 1) := by decide +kernel
theorem dX3_seesWithKindness_28 : decode cX3_seesWithKindness 28 = .ok (.iload_n 1, 1) := by decide +kernel
theorem dX3_seesWithKindness_29 : decode cX3_seesWithKindness 29 = .ok (.iload_n 2, 1) := by decide +kernel
theorem dX3_seesWithKindness_30 : decode cX3_seesWithKindness 30 = .ok (.invokevirtual 37, 3) := by decide +kernel
theorem dX3_seesWithKindness_33 : decode cX3_seesWithKindness 33 = .ok (.aload_n 0, 1) := by decide +kernel
theorem dX3_seesWithKindness_34 : decode cX3_seesWithKindness 34 = .ok (.getfield 25, 3) := by decide +kernel
theorem dX3_seesWithKindness_37 : decode cX3_seesWithKindness 37 = .ok (.getfield 41, 3) := by decide +kernel
theorem dX3_seesWithKindness_40 : decode cX3_seesWithKindness 40 = .ok (.aload_n 0, 1) := by decide +kernel
theorem dX3_seesWithKindness_41 : decode cX3_seesWithKindness 41 = .ok (.getfield 12, 3) := by decide +kernel
theorem dX3_seesWithKindness_44 : decode cX3_seesWithKindness 44 = .ok (.invokevirtual 47, 3) := by decide +kernel
theorem dX3_seesWithKindness_47 : decode cX3_seesWithKindness 47 = .ok (.aload_n 0, 1) := by decide +kernel
theorem dX3_seesWithKindness_48 : decode cX3_seesWithKindness 48 = .ok (.getfield 25, 3) := by decide +kernel
theorem dX3_seesWithKindness_51 : decode cX3_seesWithKindness 51 = .ok (.getfield 41, 3) := by decide +kernel
theorem dX3_seesWithKindness_54 : decode cX3_seesWithKindness 54 = .ok (.aload_n 0, 1) := by decide +kernel
theorem dX3_seesWithKindness_55 : decode cX3_seesWithKindness 55 = .ok (.getfield 12, 3) := by decide +kernel
theorem dX3_seesWithKindness_58 : decode cX3_seesWithKindness 58 = .ok (.invokevirtual 57, 3) := by decide +kernel
theorem dX3_seesWithKindness_61 : decode cX3_seesWithKindness 61 = .ok (.ireturn, 1) := by decide +kernel
set_option maxRecDepth 20000 in
theorem ggX3_seesFromText_X8_forget : GoodIn wsX3_seesFromText wsX8_forget := goodIn_r _ [7, 8, 9, 10, 93, 94, 95, 96, 97, 98, 99, 100] rfl (by decide +kernel)
set_option maxRecDepth 20000 in
theorem gX3_seesFromText_X8_forget : GoodIn wsX3_seesFromText (wsV RX3 69 RX8 yX8_forget wsX8_forget) := goodIn_app (goodIn_r _ [3, 4, 5, 6] rfl (by decide +kernel)) ggX3_seesFromText_X8_forget
set_option maxRecDepth 20000 in
theorem ggX3_seesFromText_X8_add : GoodIn wsX3_seesFromText wsX8_add := goodIn_r _ [14, 8, 15, 16, 17, 18, 9, 10, 19, 20, 21, 93, 94, 95, 96, 97, 98, 99, 100] rfl (by decide +kernel)
set_option maxRecDepth 20000 in
theorem gX3_seesFromText_X8_add : GoodIn wsX3_seesFromText (wsV RX3 66 RX8 yX8_add wsX8_add) := goodIn_app (goodIn_r _ [11, 12, 13, 6] rfl (by decide +kernel)) ggX3_seesFromText_X8_add
set_option maxRecDepth 20000 in
theorem ggX3_seesFromText_X0_galeOf : GoodIn wsX3_seesFromText wsX0_galeOf := goodIn_r _ [26, 27, 28, 78, 79, 80, 81, 82, 83, 84, 85, 86, 87, 88, 89, 90, 91, 92] rfl (by decide +kernel)
set_option maxRecDepth 20000 in
theorem gX3_seesFromText_X0_galeOf : GoodIn wsX3_seesFromText (wsV RX3 84 RX0 yX0_galeOf wsX0_galeOf) := goodIn_app (goodIn_r _ [22, 23, 24, 25] rfl (by decide +kernel)) ggX3_seesFromText_X0_galeOf
set_option maxRecDepth 20000 in
theorem ggX3_seesFromText_X8_set : GoodIn wsX3_seesFromText wsX8_set := goodIn_r _ [32, 33, 34, 35, 10, 15, 16, 17, 18, 36, 93, 94, 95, 96, 97, 98, 99, 100] rfl (by decide +kernel)
set_option maxRecDepth 20000 in
theorem gX3_seesFromText_X8_set : GoodIn wsX3_seesFromText (wsV RX3 88 RX8 yX8_set wsX8_set) := goodIn_app (goodIn_r _ [29, 30, 31, 6] rfl (by decide +kernel)) ggX3_seesFromText_X8_set
set_option maxRecDepth 20000 in
theorem ggX3_seesFromText_X4_feel : GoodIn wsX3_seesFromText wsX4_feel := goodIn_r _ [41, 42, 43, 44, 45, 17, 46, 47, 48, 49, 50, 51, 52, 40, 53, 54, 55, 56, 57, 58, 59, 60, 61, 6, 62, 8, 36, 9, 34, 33, 63, 35, 64, 65, 66, 67, 68, 93, 94, 95, 96, 97, 98, 99, 100, 101, 102, 103, 104, 105, 106] rfl (by decide +kernel)
set_option maxRecDepth 20000 in
theorem gX3_seesFromText_X4_feel : GoodIn wsX3_seesFromText (wsV RX3 47 RX4 yX4_feel wsX4_feel) := goodIn_app (goodIn_r _ [37, 38, 39, 40] rfl (by decide +kernel)) ggX3_seesFromText_X4_feel
set_option maxRecDepth 20000 in
theorem ggX3_seesFromText_X4_grips : GoodIn wsX3_seesFromText wsX4_grips := goodIn_r _ [72, 42, 50, 51, 52, 40, 53, 54, 55, 56, 57, 58, 59, 60, 61, 6, 62, 8, 36, 9, 34, 33, 63, 35, 64, 65, 66, 67, 68, 93, 94, 95, 96, 97, 98, 99, 100, 101, 102, 103, 104, 105, 106] rfl (by decide +kernel)
set_option maxRecDepth 20000 in
theorem gX3_seesFromText_X4_grips : GoodIn wsX3_seesFromText (wsV RX3 57 RX4 yX4_grips wsX4_grips) := goodIn_app (goodIn_r _ [69, 70, 71, 40] rfl (by decide +kernel)) ggX3_seesFromText_X4_grips
theorem dX3_seesFromText_0 : decode cX3_seesFromText 0 = .ok (.aload_n 0, 1) := by decide +kernel
theorem dX3_seesFromText_1 : decode cX3_seesFromText 1 = .ok (.getfield 12, 3) := by decide +kernel
theorem dX3_seesFromText_4 : decode cX3_seesFromText 4 = .ok (.invokevirtual 69, 3) := by decide +kernel
theorem dX3_seesFromText_7 : decode cX3_seesFromText 7 = .ok (.iconst 0, 1) := by decide +kernel
theorem dX3_seesFromText_8 : decode cX3_seesFromText 8 = .ok (.istore 5, 2) := by decide +kernel
theorem dX3_seesFromText_10 : decode cX3_seesFromText 10 = .ok (.iload 5, 2) := by decide +kernel
theorem dX3_seesFromText_12 : decode cX3_seesFromText 12 = .ok (.aload_n 0, 1) := by decide +kernel
theorem dX3_seesFromText_13 : decode cX3_seesFromText 13 = .ok (.getfield 25, 3) := by decide +kernel
theorem dX3_seesFromText_16 : decode cX3_seesFromText 16 = .ok (.getfield 72, 3) := by decide +kernel
theorem dX3_seesFromText_19 : decode cX3_seesFromText 19 = .ok (.if_icmp .ge 82, 3) := by decide +kernel
theorem dX3_seesFromText_22 : decode cX3_seesFromText 22 = .ok (.iload 5, 2) := by decide +kernel
theorem dX3_seesFromText_24 : decode cX3_seesFromText 24 = .ok (.bipush 12, 2) := by decide +kernel
theorem dX3_seesFromText_26 : decode cX3_seesFromText 26 = .ok (.if_icmp .ge 75, 3) := by decide +kernel
theorem dX3_seesFromText_29 : decode cX3_seesFromText 29 = .ok (.aload_n 0, 1) := by decide +kernel
theorem dX3_seesFromText_30 : decode cX3_seesFromText 30 = .ok (.getfield 25, 3) := by decide +kernel
theorem dX3_seesFromText_33 : decode cX3_seesFromText 33 = .ok (.getfield 75, 3) := by decide +kernel
theorem dX3_seesFromText_36 : decode cX3_seesFromText 36 = .ok (.iload 5, 2) := by decide +kernel
theorem dX3_seesFromText_38 : decode cX3_seesFromText 38 = .ok (.iaload, 1) := by decide +kernel
theorem dX3_seesFromText_39 : decode cX3_seesFromText 39 = .ok (.iload_n 1, 1) := by decide +kernel
theorem dX3_seesFromText_40 : decode cX3_seesFromText 40 = .ok (.if_icmp .ne 55, 3) := by decide +kernel
theorem dX3_seesFromText_43 : decode cX3_seesFromText 43 = .ok (.aload_n 0, 1) := by decide +kernel
theorem dX3_seesFromText_44 : decode cX3_seesFromText 44 = .ok (.getfield 25, 3) := by decide +kernel
theorem dX3_seesFromText_47 : decode cX3_seesFromText 47 = .ok (.getfield 78, 3) := by decide +kernel
theorem dX3_seesFromText_50 : decode cX3_seesFromText 50 = .ok (.iload 5, 2) := by decide +kernel
theorem dX3_seesFromText_52 : decode cX3_seesFromText 52 = .ok (.iaload, 1) := by decide +kernel
theorem dX3_seesFromText_53 : decode cX3_seesFromText 53 = .ok (.iload_n 2, 1) := by decide +kernel
theorem dX3_seesFromText_54 : decode cX3_seesFromText 54 = .ok (.if_icmp .gt 41, 3) := by decide +kernel
theorem dX3_seesFromText_57 : decode cX3_seesFromText 57 = .ok (.aload_n 0, 1) := by decide +kernel
theorem dX3_seesFromText_58 : decode cX3_seesFromText 58 = .ok (.getfield 12, 3) := by decide +kernel
theorem dX3_seesFromText_61 : decode cX3_seesFromText 61 = .ok (.iload 5, 2) := by decide +kernel
theorem dX3_seesFromText_63 : decode cX3_seesFromText 63 = .ok (.iload_n 3, 1) := by decide +kernel
theorem dX3_seesFromText_64 : decode cX3_seesFromText 64 = .ok (.if_icmp .ne 8, 3) := by decide +kernel
theorem dX3_seesFromText_67 : decode cX3_seesFromText 67 = .ok (.iload 4, 2) := by decide +kernel
theorem dX3_seesFromText_69 : decode cX3_seesFromText 69 = .ok (.goto 13, 3) := by decide +kernel
theorem dX3_seesFromText_72 : decode cX3_seesFromText 72 = .ok (.aload_n 0, 1) := by decide +kernel
theorem dX3_seesFromText_73 : decode cX3_seesFromText 73 = .ok (.getfield 25, 3) := by decide +kernel
theorem dX3_seesFromText_76 : decode cX3_seesFromText 76 = .ok (.getfield 81, 3) := by decide +kernel
theorem dX3_seesFromText_79 : decode cX3_seesFromText 79 = .ok (.iload 5, 2) := by decide +kernel
theorem dX3_seesFromText_81 : decode cX3_seesFromText 81 = .ok (.iaload, 1) := by decide +kernel
theorem dX3_seesFromText_82 : decode cX3_seesFromText 82 = .ok (.aload_n 0, 1) := by decide +kernel
theorem dX3_seesFromText_83 : decode cX3_seesFromText 83 = .ok (.getfield 25, 3) := by decide +kernel
theorem dX3_seesFromText_86 : decode cX3_seesFromText 86 = .ok (.getfield 78, 3) := by decide +kernel
theorem dX3_seesFromText_89 : decode cX3_seesFromText 89 = .ok (.iload 5, 2) := by decide +kernel
theorem dX3_seesFromText_91 : decode cX3_seesFromText 91 = .ok (.iaload, 1) := by decide +kernel
theorem dX3_seesFromText_92 : decode cX3_seesFromText 92 = .ok (.invokevirtual 66, 3) := by decide +kernel
theorem dX3_seesFromText_95 : decode cX3_seesFromText 95 = .ok (.iinc 5 1, 3) := by decide +kernel
theorem dX3_seesFromText_98 : decode cX3_seesFromText 98 = .ok (.goto (-88), 3) := by decide +kernel
theorem dX3_seesFromText_101 : decode cX3_seesFromText 101 = .ok (.aload_n 0, 1) := by decide +kernel
theorem dX3_seesFromText_102 : decode cX3_seesFromText 102 = .ok (.getfield 12, 3) := by decide +kernel
theorem dX3_seesFromText_105 : decode cX3_seesFromText 105 = .ok (.iload_n 2, 1) := by decide +kernel
theorem dX3_seesFromText_106 : decode cX3_seesFromText 106 = .ok (.aload_n 0, 1) := by decide +kernel
theorem dX3_seesFromText_107 : decode cX3_seesFromText 107 = .ok (.getfield 25, 3) := by decide +kernel
theorem dX3_seesFromText_110 : decode cX3_seesFromText 110 = .ok (.iload_n 2, 1) := by decide +kernel
theorem dX3_seesFromText_111 : decode cX3_seesFromText 111 = .ok (.invokevirtual 84, 3) := by decide +kernel
theorem dX3_seesFromText_114 : decode cX3_seesFromText 114 = .ok (.iconst 0, 1) := by decide +kernel
theorem dX3_seesFromText_115 : decode cX3_seesFromText 115 = .ok (.invokevirtual 88, 3) := by decide +kernel
theorem dX3_seesFromText_118 : decode cX3_seesFromText 118 = .ok (.aload_n 0, 1) := by decide +kernel
theorem dX3_seesFromText_119 : decode cX3_seesFromText 119 = .ok (.getfield 25, 3) := by decide +kernel
theorem dX3_seesFromText_122 : decode cX3_seesFromText 122 = .ok (.getfield 41, 3) := by decide +kernel
theorem dX3_seesFromText_125 : decode cX3_seesFromText 125 = .ok (.aload_n 0, 1) := by decide +kernel
theorem dX3_seesFromText_126 : decode cX3_seesFromText 126 = .ok (.getfield 12, 3) := by decide +kernel
theorem dX3_seesFromText_129 : decode cX3_seesFromText 129 = .ok (.invokevirtual 47, 3) := by decide +kernel
theorem dX3_seesFromText_132 : decode cX3_seesFromText 132 = .ok (.aload_n 0, 1) := by decide +kernel
theorem dX3_seesFromText_133 : decode cX3_seesFromText 133 = .ok (.getfield 25, 3) := by decide +kernel
theorem dX3_seesFromText_136 : decode cX3_seesFromText 136 = .ok (.getfield 41, 3) := by decide +kernel
theorem dX3_seesFromText_139 : decode cX3_seesFromText 139 = .ok (.aload_n 0, 1) := by decide +kernel
theorem dX3_seesFromText_140 : decode cX3_seesFromText 140 = .ok (.getfield 12, 3) := by decide +kernel
theorem dX3_seesFromText_143 : decode cX3_seesFromText 143 = .ok (.invokevirtual 57, 3) := by decide +kernel
theorem dX3_seesFromText_146 : decode cX3_seesFromText 146 = .ok (.ireturn, 1) := by decide +kernel
set_option maxRecDepth 20000 in
theorem ggX3_addDeeds_X8_add : GoodIn wsX3_addDeeds wsX8_add := goodIn_r _ [8, 9, 10, 11, 12, 13, 14, 15, 16, 17, 18, 66, 67, 68, 69, 70, 71, 72, 73] rfl (by decide +kernel)
set_option maxRecDepth 20000 in
theorem gX3_addDeeds_X8_add : GoodIn wsX3_addDeeds (wsV RX3 66 RX8 yX8_add wsX8_add) := goodIn_app (goodIn_r _ [4, 5, 6, 7] rfl (by decide +kernel)) ggX3_addDeeds_X8_add
set_option maxRecDepth 20000 in
theorem ggX3_addDeeds_X0_galeOf : GoodIn wsX3_addDeeds wsX0_galeOf := goodIn_r _ [23, 24, 25, 39, 40, 41, 42, 43, 44, 45, 46, 47, 48, 49, 50, 51, 52, 53] rfl (by decide +kernel)
set_option maxRecDepth 20000 in
theorem gX3_addDeeds_X0_galeOf : GoodIn wsX3_addDeeds (wsV RX3 84 RX0 yX0_galeOf wsX0_galeOf) := goodIn_app (goodIn_r _ [19, 20, 21, 22] rfl (by decide +kernel)) ggX3_addDeeds_X0_galeOf
set_option maxRecDepth 20000 in
theorem ggX3_addDeeds_X8_set : GoodIn wsX3_addDeeds wsX8_set := goodIn_r _ [29, 30, 31, 32, 15, 10, 11, 12, 13, 33, 66, 67, 68, 69, 70, 71, 72, 73] rfl (by decide +kernel)
set_option maxRecDepth 20000 in
theorem gX3_addDeeds_X8_set : GoodIn wsX3_addDeeds (wsV RX3 88 RX8 yX8_set wsX8_set) := goodIn_app (goodIn_r _ [26, 27, 28, 7] rfl (by decide +kernel)) ggX3_addDeeds_X8_set
theorem dX3_addDeeds_0 : decode cX3_addDeeds 0 = .ok (.iconst 0, 1) := by decide +kernel
theorem dX3_addDeeds_1 : decode cX3_addDeeds 1 = .ok (.istore_n 3, 1) := by decide +kernel
theorem dX3_addDeeds_2 : decode cX3_addDeeds 2 = .ok (.iload_n 3, 1) := by decide +kernel
theorem dX3_addDeeds_3 : decode cX3_addDeeds 3 = .ok (.aload_n 0, 1) := by decide +kernel
theorem dX3_addDeeds_4 : decode cX3_addDeeds 4 = .ok (.getfield 25, 3) := by decide +kernel
theorem dX3_addDeeds_7 : decode cX3_addDeeds 7 = .ok (.getfield 72, 3) := by decide +kernel
theorem dX3_addDeeds_10 : decode cX3_addDeeds 10 = .ok (.if_icmp .ge 75, 3) := by decide +kernel
theorem dX3_addDeeds_13 : decode cX3_addDeeds 13 = .ok (.iload_n 3, 1) := by decide +kernel
theorem dX3_addDeeds_14 : decode cX3_addDeeds 14 = .ok (.bipush 12, 2) := by decide +kernel
theorem dX3_addDeeds_16 : decode cX3_addDeeds 16 = .ok (.if_icmp .ge 69, 3) := by decide +kernel
theorem dX3_addDeeds_19 : decode cX3_addDeeds 19 = .ok (.aload_n 0, 1) := by decide +kernel
theorem dX3_addDeeds_20 : decode cX3_addDeeds 20 = .ok (.getfield 25, 3) := by decide +kernel
theorem dX3_addDeeds_23 : decode cX3_addDeeds 23 = .ok (.getfield 78, 3) := by decide +kernel
theorem dX3_addDeeds_26 : decode cX3_addDeeds 26 = .ok (.iload_n 3, 1) := by decide +kernel
theorem dX3_addDeeds_27 : decode cX3_addDeeds 27 = .ok (.iaload, 1) := by decide +kernel
theorem dX3_addDeeds_28 : decode cX3_addDeeds 28 = .ok (.istore 4, 2) := by decide +kernel
theorem dX3_addDeeds_30 : decode cX3_addDeeds 30 = .ok (.aload_n 0, 1) := by decide +kernel
theorem dX3_addDeeds_31 : decode cX3_addDeeds 31 = .ok (.getfield 25, 3) := by decide +kernel
theorem dX3_addDeeds_34 : decode cX3_addDeeds 34 = .ok (.getfield 75, 3) := by decide +kernel
theorem dX3_addDeeds_37 : decode cX3_addDeeds 37 = .ok (.iload_n 3, 1) := by decide +kernel
theorem dX3_addDeeds_38 : decode cX3_addDeeds 38 = .ok (.iaload, 1) := by decide +kernel
theorem dX3_addDeeds_39 : decode cX3_addDeeds 39 = .ok (.iload_n 1, 1) := by decide +kernel
theorem dX3_addDeeds_40 : decode cX3_addDeeds 40 = .ok (.if_icmp .ne 39, 3) := by decide +kernel
theorem dX3_addDeeds_43 : decode cX3_addDeeds 43 = .ok (.iload 4, 2) := by decide +kernel
theorem dX3_addDeeds_45 : decode cX3_addDeeds 45 = .ok (.aload_n 0, 1) := by decide +kernel
theorem dX3_addDeeds_46 : decode cX3_addDeeds 46 = .ok (.getfield 29, 3) := by decide +kernel
theorem dX3_addDeeds_49 : decode cX3_addDeeds 49 = .ok (.getfield 61, 3) := by decide +kernel
theorem dX3_addDeeds_52 : decode cX3_addDeeds 52 = .ok (.if_icmp .lt 27, 3) := by decide +kernel
theorem dX3_addDeeds_55 : decode cX3_addDeeds 55 = .ok (.iload 4, 2) := by decide +kernel
theorem dX3_addDeeds_57 : decode cX3_addDeeds 57 = .ok (.iload_n 2, 1) := by decide +kernel
theorem dX3_addDeeds_58 : decode cX3_addDeeds 58 = .ok (.if_icmp .gt 21, 3) := by decide +kernel
theorem dX3_addDeeds_61 : decode cX3_addDeeds 61 = .ok (.aload_n 0, 1) := by decide +kernel
theorem dX3_addDeeds_62 : decode cX3_addDeeds 62 = .ok (.getfield 12, 3) := by decide +kernel
theorem dX3_addDeeds_65 : decode cX3_addDeeds 65 = .ok (.aload_n 0, 1) := by decide +kernel
theorem dX3_addDeeds_66 : decode cX3_addDeeds 66 = .ok (.getfield 25, 3) := by decide +kernel
theorem dX3_addDeeds_69 : decode cX3_addDeeds 69 = .ok (.getfield 81, 3) := by decide +kernel
theorem dX3_addDeeds_72 : decode cX3_addDeeds 72 = .ok (.iload_n 3, 1) := by decide +kernel
theorem dX3_addDeeds_73 : decode cX3_addDeeds 73 = .ok (.iaload, 1) := by decide +kernel
theorem dX3_addDeeds_74 : decode cX3_addDeeds 74 = .ok (.iload 4, 2) := by decide +kernel
theorem dX3_addDeeds_76 : decode cX3_addDeeds 76 = .ok (.invokevirtual 66, 3) := by decide +kernel
theorem dX3_addDeeds_79 : decode cX3_addDeeds 79 = .ok (.iinc 3 1, 3) := by decide +kernel
theorem dX3_addDeeds_82 : decode cX3_addDeeds 82 = .ok (.goto (-80), 3) := by decide +kernel
theorem dX3_addDeeds_85 : decode cX3_addDeeds 85 = .ok (.aload_n 0, 1) := by decide +kernel
theorem dX3_addDeeds_86 : decode cX3_addDeeds 86 = .ok (.getfield 12, 3) := by decide +kernel
theorem dX3_addDeeds_89 : decode cX3_addDeeds 89 = .ok (.iload_n 2, 1) := by decide +kernel
theorem dX3_addDeeds_90 : decode cX3_addDeeds 90 = .ok (.aload_n 0, 1) := by decide +kernel
theorem dX3_addDeeds_91 : decode cX3_addDeeds 91 = .ok (.getfield 25, 3) := by decide +kernel
theorem dX3_addDeeds_94 : decode cX3_addDeeds 94 = .ok (.iload_n 2, 1) := by decide +kernel
theorem dX3_addDeeds_95 : decode cX3_addDeeds 95 = .ok (.invokevirtual 84, 3) := by decide +kernel
theorem dX3_addDeeds_98 : decode cX3_addDeeds 98 = .ok (.iconst 0, 1) := by decide +kernel
theorem dX3_addDeeds_99 : decode cX3_addDeeds 99 = .ok (.invokevirtual 88, 3) := by decide +kernel
theorem dX3_addDeeds_102 : decode cX3_addDeeds 102 = .ok (.return_, 1) := by decide +kernel
set_option maxRecDepth 20000 in
theorem ggX3_countNights_X3_sees : GoodIn wsX3_countNights wsX3_sees := goodIn_r _ [8, 9, 3, 1, 10, 11, 12, 13, 14, 15, 16, 17, 18, 19, 20, 21, 22, 23, 24, 7, 25, 26, 27, 28, 29, 30, 31, 32, 33, 34, 35, 36, 37, 38, 39, 40, 41, 42, 43, 44, 45, 46, 47, 48, 49, 50, 51, 52, 53, 54, 55, 56, 57, 58, 59, 60, 61, 62, 63, 64, 65, 66, 67, 68, 69, 70, 71, 72, 73, 74, 75, 76, 77, 78, 79, 80, 81, 82, 83, 84, 85, 86, 87, 88, 89, 90, 91, 92, 93, 94, 95, 96, 97, 98, 99, 100, 101, 102, 103, 104, 105, 106, 107, 108, 109, 110, 111, 112, 113, 114, 115, 116, 117, 118, 119, 120, 121, 122, 123, 124, 125, 126, 127, 128, 129, 130, 131, 132, 133] rfl (by decide +kernel)
set_option maxRecDepth 20000 in
theorem gX3_countNights_X3_sees : GoodIn wsX3_countNights (wsV RX3 95 RX3 yX3_sees wsX3_sees) := goodIn_app (goodIn_r _ [4, 5, 6, 7] rfl (by decide +kernel)) ggX3_countNights_X3_sees
theorem dX3_countNights_0 : decode cX3_countNights 0 = .ok (.iconst 0, 1) := by decide +kernel
theorem dX3_countNights_1 : decode cX3_countNights 1 = .ok (.istore_n 2, 1) := by decide +kernel
theorem dX3_countNights_2 : decode cX3_countNights 2 = .ok (.iload_n 2, 1) := by decide +kernel
theorem dX3_countNights_3 : decode cX3_countNights 3 = .ok (.aload_n 0, 1) := by decide +kernel
theorem dX3_countNights_4 : decode cX3_countNights 4 = .ok (.getfield 25, 3) := by decide +kernel
theorem dX3_countNights_7 : decode cX3_countNights 7 = .ok (.getfield 92, 3) := by decide +kernel
theorem dX3_countNights_10 : decode cX3_countNights 10 = .ok (.if_icmp .ge 62, 3) := by decide +kernel
theorem dX3_countNights_13 : decode cX3_countNights 13 = .ok (.iload_n 2, 1) := by decide +kernel
theorem dX3_countNights_14 : decode cX3_countNights 14 = .ok (.bipush 8, 2) := by decide +kernel
theorem dX3_countNights_16 : decode cX3_countNights 16 = .ok (.if_icmp .ge 56, 3) := by decide +kernel
theorem dX3_countNights_19 : decode cX3_countNights 19 = .ok (.aload_n 0, 1) := by decide +kernel
theorem dX3_countNights_20 : decode cX3_countNights 20 = .ok (.getfield 18, 3) := by decide +kernel
theorem dX3_countNights_23 : decode cX3_countNights 23 = .ok (.iload_n 2, 1) := by decide +kernel
theorem dX3_countNights_24 : decode cX3_countNights 24 = .ok (.iconst 0, 1) := by decide +kernel
theorem dX3_countNights_25 : decode cX3_countNights 25 = .ok (.iastore, 1) := by decide +kernel
theorem dX3_countNights_26 : decode cX3_countNights 26 = .ok (.iconst 0, 1) := by decide +kernel
theorem dX3_countNights_27 : decode cX3_countNights 27 = .ok (.istore_n 3, 1) := by decide +kernel
theorem dX3_countNights_28 : decode cX3_countNights 28 = .ok (.iload_n 3, 1) := by decide +kernel
theorem dX3_countNights_29 : decode cX3_countNights 29 = .ok (.iload_n 1, 1) := by decide +kernel
theorem dX3_countNights_30 : decode cX3_countNights 30 = .ok (.if_icmp .ge 36, 3) := by decide +kernel
theorem dX3_countNights_33 : decode cX3_countNights 33 = .ok (.aload_n 0, 1) := by decide +kernel
theorem dX3_countNights_34 : decode cX3_countNights 34 = .ok (.iload_n 2, 1) := by decide +kernel
theorem dX3_countNights_35 : decode cX3_countNights 35 = .ok (.aload_n 0, 1) := by decide +kernel
theorem dX3_countNights_36 : decode cX3_countNights 36 = .ok (.getfield 29, 3) := by decide +kernel
theorem dX3_countNights_39 : decode cX3_countNights 39 = .ok (.getfield 61, 3) := by decide +kernel
theorem dX3_countNights_42 : decode cX3_countNights 42 = .ok (.iload_n 3, 1) := by decide +kernel
theorem dX3_countNights_43 : decode cX3_countNights 43 = .ok (.iadd, 1) := by decide +kernel
theorem dX3_countNights_44 : decode cX3_countNights 44 = .ok (.invokevirtual 95, 3) := by decide +kernel
theorem dX3_countNights_47 : decode cX3_countNights 47 = .ok (.ifCond .eq 13, 3) := by decide +kernel
theorem dX3_countNights_50 : decode cX3_countNights 50 = .ok (.aload_n 0, 1) := by decide +kernel
theorem dX3_countNights_51 : decode cX3_countNights 51 = .ok (.getfield 18, 3) := by decide +kernel
theorem dX3_countNights_54 : decode cX3_countNights 54 = .ok (.iload_n 2, 1) := by decide +kernel
theorem dX3_countNights_55 : decode cX3_countNights 55 = .ok (.dup2, 1) := by decide +kernel
theorem dX3_countNights_56 : decode cX3_countNights 56 = .ok (.iaload, 1) := by decide +kernel
theorem dX3_countNights_57 : decode cX3_countNights 57 = .ok (.iconst 1, 1) := by decide +kernel
theorem dX3_countNights_58 : decode cX3_countNights 58 = .ok (.iadd, 1) := by decide +kernel
theorem dX3_countNights_59 : decode cX3_countNights 59 = .ok (.iastore, 1) := by decide +kernel
theorem dX3_countNights_60 : decode cX3_countNights 60 = .ok (.iinc 3 1, 3) := by decide +kernel
theorem dX3_countNights_63 : decode cX3_countNights 63 = .ok (.goto (-35), 3) := by decide +kernel
theorem dX3_countNights_66 : decode cX3_countNights 66 = .ok (.iinc 2 1, 3) := by decide +kernel
theorem dX3_countNights_69 : decode cX3_countNights 69 = .ok (.goto (-67), 3) := by decide +kernel
theorem dX3_countNights_72 : decode cX3_countNights 72 = .ok (.return_, 1) := by decide +kernel
set_option maxRecDepth 20000 in
theorem ggX3_findRests_X3_isBestBeside : GoodIn wsX3_findRests wsX3_isBestBeside := goodIn_r _ [7, 1, 8, 9, 10, 6, 11, 12, 13, 14, 15, 16, 17, 18, 19, 20, 21, 22, 23, 24, 25, 26, 27, 28, 29, 30, 31, 32] rfl (by decide +kernel)
set_option maxRecDepth 20000 in
theorem gX3_findRests_X3_isBestBeside : GoodIn wsX3_findRests (wsV RX3 99 RX3 yX3_isBestBeside wsX3_isBestBeside) := goodIn_app (goodIn_r _ [3, 4, 5, 6] rfl (by decide +kernel)) ggX3_findRests_X3_isBestBeside
theorem dX3_findRests_0 : decode cX3_findRests 0 = .ok (.iconst 0, 1) := by decide +kernel
theorem dX3_findRests_1 : decode cX3_findRests 1 = .ok (.istore_n 1, 1) := by decide +kernel
theorem dX3_findRests_2 : decode cX3_findRests 2 = .ok (.iconst 0, 1) := by decide +kernel
theorem dX3_findRests_3 : decode cX3_findRests 3 = .ok (.istore_n 2, 1) := by decide +kernel
theorem dX3_findRests_4 : decode cX3_findRests 4 = .ok (.iload_n 2, 1) := by decide +kernel
theorem dX3_findRests_5 : decode cX3_findRests 5 = .ok (.aload_n 0, 1) := by decide +kernel
theorem dX3_findRests_6 : decode cX3_findRests 6 = .ok (.getfield 25, 3) := by decide +kernel
theorem dX3_findRests_9 : decode cX3_findRests 9 = .ok (.getfield 92, 3) := by decide +kernel
theorem dX3_findRests_12 : decode cX3_findRests 12 = .ok (.if_icmp .ge 82, 3) := by decide +kernel
theorem dX3_findRests_15 : decode cX3_findRests 15 = .ok (.iload_n 2, 1) := by decide +kernel
theorem dX3_findRests_16 : decode cX3_findRests 16 = .ok (.bipush 8, 2) := by decide +kernel
theorem dX3_findRests_18 : decode cX3_findRests 18 = .ok (.if_icmp .ge 76, 3) := by decide +kernel
theorem dX3_findRests_21 : decode cX3_findRests 21 = .ok (.iconst 0, 1) := by decide +kernel
theorem dX3_findRests_22 : decode cX3_findRests 22 = .ok (.istore_n 3, 1) := by decide +kernel
theorem dX3_findRests_23 : decode cX3_findRests 23 = .ok (.iload_n 3, 1) := by decide +kernel
theorem dX3_findRests_24 : decode cX3_findRests 24 = .ok (.aload_n 0, 1) := by decide +kernel
theorem dX3_findRests_25 : decode cX3_findRests 25 = .ok (.getfield 25, 3) := by decide +kernel
theorem dX3_findRests_28 : decode cX3_findRests 28 = .ok (.getfield 92, 3) := by decide +kernel
theorem dX3_findRests_31 : decode cX3_findRests 31 = .ok (.if_icmp .ge 57, 3) := by decide +kernel
theorem dX3_findRests_34 : decode cX3_findRests 34 = .ok (.iload_n 3, 1) := by decide +kernel
theorem dX3_findRests_35 : decode cX3_findRests 35 = .ok (.bipush 8, 2) := by decide +kernel
theorem dX3_findRests_37 : decode cX3_findRests 37 = .ok (.if_icmp .ge 51, 3) := by decide +kernel
theorem dX3_findRests_40 : decode cX3_findRests 40 = .ok (.aload_n 0, 1) := by decide +kernel
theorem dX3_findRests_41 : decode cX3_findRests 41 = .ok (.iload_n 2, 1) := by decide +kernel
theorem dX3_findRests_42 : decode cX3_findRests 42 = .ok (.iload_n 3, 1) := by decide +kernel
theorem dX3_findRests_43 : decode cX3_findRests 43 = .ok (.invokevirtual 99, 3) := by decide +kernel
theorem dX3_findRests_46 : decode cX3_findRests 46 = .ok (.ifCond .eq 36, 3) := by decide +kernel
theorem dX3_findRests_49 : decode cX3_findRests 49 = .ok (.aload_n 0, 1) := by decide +kernel
theorem dX3_findRests_50 : decode cX3_findRests 50 = .ok (.iload_n 3, 1) := by decide +kernel
theorem dX3_findRests_51 : decode cX3_findRests 51 = .ok (.iload_n 2, 1) := by decide +kernel
theorem dX3_findRests_52 : decode cX3_findRests 52 = .ok (.invokevirtual 99, 3) := by decide +kernel
theorem dX3_findRests_55 : decode cX3_findRests 55 = .ok (.ifCond .eq 27, 3) := by decide +kernel
theorem dX3_findRests_58 : decode cX3_findRests 58 = .ok (.iload_n 1, 1) := by decide +kernel
theorem dX3_findRests_59 : decode cX3_findRests 59 = .ok (.aload_n 0, 1) := by decide +kernel
theorem dX3_findRests_60 : decode cX3_findRests 60 = .ok (.getfield 22, 3) := by decide +kernel
theorem dX3_findRests_63 : decode cX3_findRests 63 = .ok (.arraylength, 1) := by decide +kernel
theorem dX3_findRests_64 : decode cX3_findRests 64 = .ok (.if_icmp .ge 18, 3) := by decide +kernel
theorem dX3_findRests_67 : decode cX3_findRests 67 = .ok (.aload_n 0, 1) := by decide +kernel
theorem dX3_findRests_68 : decode cX3_findRests 68 = .ok (.getfield 22, 3) := by decide +kernel
theorem dX3_findRests_71 : decode cX3_findRests 71 = .ok (.iload_n 1, 1) := by decide +kernel
theorem dX3_findRests_72 : decode cX3_findRests 72 = .ok (.bipush 10, 2) := by decide +kernel
theorem dX3_findRests_74 : decode cX3_findRests 74 = .ok (.iload_n 2, 1) := by decide +kernel
theorem dX3_findRests_75 : decode cX3_findRests 75 = .ok (.imul, 1) := by decide +kernel
theorem dX3_findRests_76 : decode cX3_findRests 76 = .ok (.iload_n 3, 1) := by decide +kernel
theorem dX3_findRests_77 : decode cX3_findRests 77 = .ok (.iadd, 1) := by decide +kernel
theorem dX3_findRests_78 : decode cX3_findRests 78 = .ok (.iastore, 1) := by decide +kernel
theorem dX3_findRests_79 : decode cX3_findRests 79 = .ok (.iinc 1 1, 3) := by decide +kernel
theorem dX3_findRests_82 : decode cX3_findRests 82 = .ok (.iinc 3 1, 3) := by decide +kernel
theorem dX3_findRests_85 : decode cX3_findRests 85 = .ok (.goto (-62), 3) := by decide +kernel
theorem dX3_findRests_88 : decode cX3_findRests 88 = .ok (.iinc 2 1, 3) := by decide +kernel
theorem dX3_findRests_91 : decode cX3_findRests 91 = .ok (.goto (-87), 3) := by decide +kernel
theorem dX3_findRests_94 : decode cX3_findRests 94 = .ok (.iload_n 1, 1) := by decide +kernel
theorem dX3_findRests_95 : decode cX3_findRests 95 = .ok (.ireturn, 1) := by decide +kernel
set_option maxRecDepth 20000 in
theorem ggX3_isBestBeside_X3_shareOf : GoodIn wsX3_isBestBeside wsX3_shareOf := goodIn_r _ [6, 7, 8, 9, 10, 11, 12] rfl (by decide +kernel)
set_option maxRecDepth 20000 in
theorem gX3_isBestBeside_X3_shareOf : GoodIn wsX3_isBestBeside (wsV RX3 102 RX3 yX3_shareOf wsX3_shareOf) := goodIn_app (goodIn_r _ [2, 3, 4, 5] rfl (by decide +kernel)) ggX3_isBestBeside_X3_shareOf
theorem dX3_isBestBeside_0 : decode cX3_isBestBeside 0 = .ok (.iconst 0, 1) := by decide +kernel
theorem dX3_isBestBeside_1 : decode cX3_isBestBeside 1 = .ok (.istore_n 3, 1) := by decide +kernel
theorem dX3_isBestBeside_2 : decode cX3_isBestBeside 2 = .ok (.iload_n 3, 1) := by decide +kernel
theorem dX3_isBestBeside_3 : decode cX3_isBestBeside 3 = .ok (.aload_n 0, 1) := by decide +kernel
theorem dX3_isBestBeside_4 : decode cX3_isBestBeside 4 = .ok (.getfield 25, 3) := by decide +kernel
theorem dX3_isBestBeside_7 : decode cX3_isBestBeside 7 = .ok (.getfield 92, 3) := by decide +kernel
theorem dX3_isBestBeside_10 : decode cX3_isBestBeside 10 = .ok (.if_icmp .ge 32, 3) := by decide +kernel
theorem dX3_isBestBeside_13 : decode cX3_isBestBeside 13 = .ok (.iload_n 3, 1) := by decide +kernel
theorem dX3_isBestBeside_14 : decode cX3_isBestBeside 14 = .ok (.bipush 8, 2) := by decide +kernel
theorem dX3_isBestBeside_16 : decode cX3_isBestBeside 16 = .ok (.if_icmp .ge 26, 3) := by decide +kernel
theorem dX3_isBestBeside_19 : decode cX3_isBestBeside 19 = .ok (.aload_n 0, 1) := by decide +kernel
theorem dX3_isBestBeside_20 : decode cX3_isBestBeside 20 = .ok (.iload_n 3, 1) := by decide +kernel
theorem dX3_isBestBeside_21 : decode cX3_isBestBeside 21 = .ok (.iload_n 2, 1) := by decide +kernel
theorem dX3_isBestBeside_22 : decode cX3_isBestBeside 22 = .ok (.invokevirtual 102, 3) := by decide +kernel
theorem dX3_isBestBeside_25 : decode cX3_isBestBeside 25 = .ok (.aload_n 0, 1) := by decide +kernel
theorem dX3_isBestBeside_26 : decode cX3_isBestBeside 26 = .ok (.iload_n 1, 1) := by decide +kernel
theorem dX3_isBestBeside_27 : decode cX3_isBestBeside 27 = .ok (.iload_n 2, 1) := by decide +kernel
theorem dX3_isBestBeside_28 : decode cX3_isBestBeside 28 = .ok (.invokevirtual 102, 3) := by decide +kernel
theorem dX3_isBestBeside_31 : decode cX3_isBestBeside 31 = .ok (.if_icmp .le 5, 3) := by decide +kernel
theorem dX3_isBestBeside_34 : decode cX3_isBestBeside 34 = .ok (.iconst 0, 1) := by decide +kernel
theorem dX3_isBestBeside_35 : decode cX3_isBestBeside 35 = .ok (.ireturn, 1) := by decide +kernel
theorem dX3_isBestBeside_36 : decode cX3_isBestBeside 36 = .ok (.iinc 3 1, 3) := by decide +kernel
theorem dX3_isBestBeside_39 : decode cX3_isBestBeside 39 = .ok (.goto (-37), 3) := by decide +kernel
theorem dX3_isBestBeside_42 : decode cX3_isBestBeside 42 = .ok (.iconst 1, 1) := by decide +kernel
theorem dX3_isBestBeside_43 : decode cX3_isBestBeside 43 = .ok (.ireturn, 1) := by decide +kernel
theorem dX3_shareOf_0 : decode cX3_shareOf 0 = .ok (.iload_n 1, 1) := by decide +kernel
theorem dX3_shareOf_1 : decode cX3_shareOf 1 = .ok (.ifCond .lt 9, 3) := by decide +kernel
theorem dX3_shareOf_4 : decode cX3_shareOf 4 = .ok (.iload_n 1, 1) := by decide +kernel
theorem dX3_shareOf_5 : decode cX3_shareOf 5 = .ok (.bipush 8, 2) := by decide +kernel
theorem dX3_shareOf_7 : decode cX3_shareOf 7 = .ok (.if_icmp .lt 5, 3) := by decide +kernel
theorem dX3_shareOf_10 : decode cX3_shareOf 10 = .ok (.iconst 0, 1) := by decide +kernel
theorem dX3_shareOf_11 : decode cX3_shareOf 11 = .ok (.ireturn, 1) := by decide +kernel
theorem dX3_shareOf_12 : decode cX3_shareOf 12 = .ok (.iload_n 1, 1) := by decide +kernel
theorem dX3_shareOf_13 : decode cX3_shareOf 13 = .ok (.iload_n 2, 1) := by decide +kernel
theorem dX3_shareOf_14 : decode cX3_shareOf 14 = .ok (.if_icmp .ne 14, 3) := by decide +kernel
theorem dX3_shareOf_17 : decode cX3_shareOf 17 = .ok (.aload_n 0, 1) := by decide +kernel
theorem dX3_shareOf_18 : decode cX3_shareOf 18 = .ok (.getfield 18, 3) := by decide +kernel
theorem dX3_shareOf_21 : decode cX3_shareOf 21 = .ok (.iload_n 1, 1) := by decide +kernel
theorem dX3_shareOf_22 : decode cX3_shareOf 22 = .ok (.iaload, 1) := by decide +kernel
theorem dX3_shareOf_23 : decode cX3_shareOf 23 = .ok (.iconst 2, 1) := by decide +kernel
theorem dX3_shareOf_24 : decode cX3_shareOf 24 = .ok (.idiv, 1) := by decide +kernel
theorem dX3_shareOf_25 : decode cX3_shareOf 25 = .ok (.goto 9, 3) := by decide +kernel
theorem dX3_shareOf_28 : decode cX3_shareOf 28 = .ok (.aload_n 0, 1) := by decide +kernel
theorem dX3_shareOf_29 : decode cX3_shareOf 29 = .ok (.getfield 18, 3) := by decide +kernel
theorem dX3_shareOf_32 : decode cX3_shareOf 32 = .ok (.iload_n 1, 1) := by decide +kernel
theorem dX3_shareOf_33 : decode cX3_shareOf 33 = .ok (.iaload, 1) := by decide +kernel
theorem dX3_shareOf_34 : decode cX3_shareOf 34 = .ok (.ireturn, 1) := by decide +kernel
theorem dX4_init_0 : decode cX4_init 0 = .ok (.aload_n 0, 1) := by decide +kernel
theorem dX4_init_1 : decode cX4_init 1 = .ok (.invokespecial 3, 3) := by decide +kernel
theorem dX4_init_4 : decode cX4_init 4 = .ok (.aload_n 0, 1) := by decide +kernel
theorem dX4_init_5 : decode cX4_init 5 = .ok (.bipush 64, 2) := by decide +kernel
theorem dX4_init_7 : decode cX4_init 7 = .ok (.newarray .int, 2) := by decide +kernel
theorem dX4_init_9 : decode cX4_init 9 = .ok (.putfield 9, 3) := by decide +kernel
theorem dX4_init_12 : decode cX4_init 12 = .ok (.aload_n 0, 1) := by decide +kernel
theorem dX4_init_13 : decode cX4_init 13 = .ok (.bipush 64, 2) := by decide +kernel
theorem dX4_init_15 : decode cX4_init 15 = .ok (.newarray .int, 2) := by decide +kernel
theorem dX4_init_17 : decode cX4_init 17 = .ok (.putfield 15, 3) := by decide +kernel
theorem dX4_init_20 : decode cX4_init 20 = .ok (.aload_n 0, 1) := by decide +kernel
theorem dX4_init_21 : decode cX4_init 21 = .ok (.iconst 3, 1) := by decide +kernel
theorem dX4_init_22 : decode cX4_init 22 = .ok (.newarray .int, 2) := by decide +kernel
theorem dX4_init_24 : decode cX4_init 24 = .ok (.putfield 18, 3) := by decide +kernel
theorem dX4_init_27 : decode cX4_init 27 = .ok (.aload_n 0, 1) := by decide +kernel
theorem dX4_init_28 : decode cX4_init 28 = .ok (.iconst 3, 1) := by decide +kernel
theorem dX4_init_29 : decode cX4_init 29 = .ok (.newarray .int, 2) := by decide +kernel
theorem dX4_init_31 : decode cX4_init 31 = .ok (.putfield 21, 3) := by decide +kernel
theorem dX4_init_34 : decode cX4_init 34 = .ok (.aload_n 0, 1) := by decide +kernel
theorem dX4_init_35 : decode cX4_init 35 = .ok (.bipush 64, 2) := by decide +kernel
theorem dX4_init_37 : decode cX4_init 37 = .ok (.newarray .long, 2) := by decide +kernel
theorem dX4_init_39 : decode cX4_init 39 = .ok (.putfield 24, 3) := by decide +kernel
theorem dX4_init_42 : decode cX4_init 42 = .ok (.return_, 1) := by decide +kernel
theorem dX4_clear_0 : decode cX4_clear 0 = .ok (.aload_n 0, 1) := by decide +kernel
theorem dX4_clear_1 : decode cX4_clear 1 = .ok (.iconst 0, 1) := by decide +kernel
theorem dX4_clear_2 : decode cX4_clear 2 = .ok (.putfield 28, 3) := by decide +kernel
theorem dX4_clear_5 : decode cX4_clear 5 = .ok (.iconst 0, 1) := by decide +kernel
theorem dX4_clear_6 : decode cX4_clear 6 = .ok (.istore_n 1, 1) := by decide +kernel
theorem dX4_clear_7 : decode cX4_clear 7 = .ok (.iload_n 1, 1) := by decide +kernel
theorem dX4_clear_8 : decode cX4_clear 8 = .ok (.iconst 3, 1) := by decide +kernel
theorem dX4_clear_9 : decode cX4_clear 9 = .ok (.if_icmp .ge 23, 3) := by decide +kernel
theorem dX4_clear_12 : decode cX4_clear 12 = .ok (.aload_n 0, 1) := by decide +kernel
theorem dX4_clear_13 : decode cX4_clear 13 = .ok (.getfield 18, 3) := by decide +kernel
theorem dX4_clear_16 : decode cX4_clear 16 = .ok (.iload_n 1, 1) := by decide +kernel
theorem dX4_clear_17 : decode cX4_clear 17 = .ok (.iconst 0, 1) := by decide +kernel
theorem dX4_clear_18 : decode cX4_clear 18 = .ok (.iastore, 1) := by decide +kernel
theorem dX4_clear_19 : decode cX4_clear 19 = .ok (.aload_n 0, 1) := by decide +kernel
theorem dX4_clear_20 : decode cX4_clear 20 = .ok (.getfield 21, 3) := by decide +kernel
theorem dX4_clear_23 : decode cX4_clear 23 = .ok (.iload_n 1, 1) := by decide +kernel
theorem dX4_clear_24 : decode cX4_clear 24 = .ok (.iconst 0, 1) := by decide +kernel
theorem dX4_clear_25 : decode cX4_clear 25 = .ok (.iastore, 1) := by decide +kernel
theorem dX4_clear_26 : decode cX4_clear 26 = .ok (.iinc 1 1, 3) := by decide +kernel
theorem dX4_clear_29 : decode cX4_clear 29 = .ok (.goto (-22), 3) := by decide +kernel
theorem dX4_clear_32 : decode cX4_clear 32 = .ok (.return_, 1) := by decide +kernel
theorem dX4_begin_0 : decode cX4_begin 0 = .ok (.iload_n 1, 1) := by decide +kernel
theorem dX4_begin_1 : decode cX4_begin 1 = .ok (.ifCond .lt 18, 3) := by decide +kernel
theorem dX4_begin_4 : decode cX4_begin 4 = .ok (.iload_n 1, 1) := by decide +kernel
theorem dX4_begin_5 : decode cX4_begin 5 = .ok (.iconst 3, 1) := by decide +kernel
theorem dX4_begin_6 : decode cX4_begin 6 = .ok (.if_icmp .ge 13, 3) := by decide +kernel
theorem dX4_begin_9 : decode cX4_begin 9 = .ok (.aload_n 0, 1) := by decide +kernel
theorem dX4_begin_10 : decode cX4_begin 10 = .ok (.getfield 18, 3) := by decide +kernel
theorem dX4_begin_13 : decode cX4_begin 13 = .ok (.iload_n 1, 1) := by decide +kernel
theorem dX4_begin_14 : decode cX4_begin 14 = .ok (.aload_n 0, 1) := by decide +kernel
theorem dX4_begin_15 : decode cX4_begin 15 = .ok (.getfield 28, 3) := by decide +kernel
theorem dX4_begin_18 : decode cX4_begin 18 = .ok (.iastore, 1) := by decide +kernel
theorem dX4_begin_19 : decode cX4_begin 19 = .ok (.return_, 1) := by decide +kernel
theorem dX4_add_0 : decode cX4_add 0 = .ok (.aload_n 0, 1) := by decide +kernel
theorem dX4_add_1 : decode cX4_add 1 = .ok (.getfield 28, 3) := by decide +kernel
theorem dX4_add_4 : decode cX4_add 4 = .ok (.bipush 64, 2) := by decide +kernel
theorem dX4_add_6 : decode cX4_add 6 = .ok (.if_icmp .ge 33, 3) := by decide +kernel
theorem dX4_add_9 : decode cX4_add 9 = .ok (.aload_n 0, 1) := by decide +kernel
theorem dX4_add_10 : decode cX4_add 10 = .ok (.getfield 9, 3) := by decide +kernel
theorem dX4_add_13 : decode cX4_add 13 = .ok (.aload_n 0, 1) := by decide +kernel
theorem dX4_add_14 : decode cX4_add 14 = .ok (.getfield 28, 3) := by decide +kernel
theorem dX4_add_17 : decode cX4_add 17 = .ok (.iload_n 1, 1) := by decide +kernel
theorem dX4_add_18 : decode cX4_add 18 = .ok (.iastore, 1) := by decide +kernel
theorem dX4_add_19 : decode cX4_add 19 = .ok (.aload_n 0, 1) := by decide +kernel
theorem dX4_add_20 : decode cX4_add 20 = .ok (.getfield 15, 3) := by decide +kernel
theorem dX4_add_23 : decode cX4_add 23 = .ok (.aload_n 0, 1) := by decide +kernel
theorem dX4_add_24 : decode cX4_add 24 = .ok (.getfield 28, 3) := by decide +kernel
theorem dX4_add_27 : decode cX4_add 27 = .ok (.iload_n 2, 1) := by decide +kernel
theorem dX4_add_28 : decode cX4_add 28 = .ok (.iastore, 1) := by decide +kernel
theorem dX4_add_29 : decode cX4_add 29 = .ok (.aload_n 0, 1) := by decide +kernel
theorem dX4_add_30 : decode cX4_add 30 = .ok (.dup, 1) := by decide +kernel
theorem dX4_add_31 : decode cX4_add 31 = .ok (.getfield 28, 3) := by decide +kernel
theorem dX4_add_34 : decode cX4_add 34 = .ok (.iconst 1, 1) := by decide +kernel
theorem dX4_add_35 : decode cX4_add 35 = .ok (.iadd, 1) := by decide +kernel
theorem dX4_add_36 : decode cX4_add 36 = .ok (.putfield 28, 3) := by decide +kernel
theorem dX4_add_39 : decode cX4_add 39 = .ok (.return_, 1) := by decide +kernel
theorem dX4_end_0 : decode cX4_end 0 = .ok (.iload_n 1, 1) := by decide +kernel
theorem dX4_end_1 : decode cX4_end 1 = .ok (.ifCond .lt 18, 3) := by decide +kernel
theorem dX4_end_4 : decode cX4_end 4 = .ok (.iload_n 1, 1) := by decide +kernel
theorem dX4_end_5 : decode cX4_end 5 = .ok (.iconst 3, 1) := by decide +kernel
theorem dX4_end_6 : decode cX4_end 6 = .ok (.if_icmp .ge 13, 3) := by decide +kernel
theorem dX4_end_9 : decode cX4_end 9 = .ok (.aload_n 0, 1) := by decide +kernel
theorem dX4_end_10 : decode cX4_end 10 = .ok (.getfield 21, 3) := by decide +kernel
theorem dX4_end_13 : decode cX4_end 13 = .ok (.iload_n 1, 1) := by decide +kernel
theorem dX4_end_14 : decode cX4_end 14 = .ok (.aload_n 0, 1) := by decide +kernel
theorem dX4_end_15 : decode cX4_end 15 = .ok (.getfield 28, 3) := by decide +kernel
theorem dX4_end_18 : decode cX4_end 18 = .ok (.iastore, 1) := by decide +kernel
theorem dX4_end_19 : decode cX4_end 19 = .ok (.return_, 1) := by decide +kernel
set_option maxRecDepth 20000 in
theorem ggX4_feel_X4_worth : GoodIn wsX4_feel wsX4_worth := goodIn_r _ [14, 15, 16, 1, 17, 18, 19, 20, 21, 22, 23, 24, 25, 26, 27, 28, 29, 30, 31, 32, 33, 13, 34, 35, 36, 45, 46, 47, 48, 49, 50, 37, 38, 39, 40, 41, 42, 43, 44] rfl (by decide +kernel)
set_option maxRecDepth 20000 in
theorem gX4_feel_X4_worth : GoodIn wsX4_feel (wsV RX4 37 RX4 yX4_worth wsX4_worth) := goodIn_app (goodIn_r _ [10, 11, 12, 13] rfl (by decide +kernel)) ggX4_feel_X4_worth
theorem dX4_feel_0 : decode cX4_feel 0 = .ok (.aload_n 1, 1) := by decide +kernel
theorem dX4_feel_1 : decode cX4_feel 1 = .ok (.iconst 0, 1) := by decide +kernel
theorem dX4_feel_2 : decode cX4_feel 2 = .ok (.putfield 32, 3) := by decide +kernel
theorem dX4_feel_5 : decode cX4_feel 5 = .ok (.aload_n 0, 1) := by decide +kernel
theorem dX4_feel_6 : decode cX4_feel 6 = .ok (.iconst 0, 1) := by decide +kernel
theorem dX4_feel_7 : decode cX4_feel 7 = .ok (.aload_n 1, 1) := by decide +kernel
theorem dX4_feel_8 : decode cX4_feel 8 = .ok (.invokevirtual 37, 3) := by decide +kernel
theorem dX4_feel_11 : decode cX4_feel 11 = .ok (.lstore_n 2, 1) := by decide +kernel
theorem dX4_feel_12 : decode cX4_feel 12 = .ok (.lload_n 2, 1) := by decide +kernel
theorem dX4_feel_13 : decode cX4_feel 13 = .ok (.ldc2_w 41, 3) := by decide +kernel
theorem dX4_feel_16 : decode cX4_feel 16 = .ok (.lcmp, 1) := by decide +kernel
theorem dX4_feel_17 : decode cX4_feel 17 = .ok (.ifCond .ne 17, 3) := by decide +kernel
theorem dX4_feel_20 : decode cX4_feel 20 = .ok (.bipush 10, 2) := by decide +kernel
theorem dX4_feel_22 : decode cX4_feel 22 = .ok (.aload_n 1, 1) := by decide +kernel
theorem dX4_feel_23 : decode cX4_feel 23 = .ok (.getfield 43, 3) := by decide +kernel
theorem dX4_feel_26 : decode cX4_feel 26 = .ok (.imul, 1) := by decide +kernel
theorem dX4_feel_27 : decode cX4_feel 27 = .ok (.aload_n 1, 1) := by decide +kernel
theorem dX4_feel_28 : decode cX4_feel 28 = .ok (.getfield 46, 3) := by decide +kernel
theorem dX4_feel_31 : decode cX4_feel 31 = .ok (.isub, 1) := by decide +kernel
theorem dX4_feel_32 : decode cX4_feel 32 = .ok (.i2l, 1) := by decide +kernel
theorem dX4_feel_33 : decode cX4_feel 33 = .ok (.lstore_n 2, 1) := by decide +kernel
theorem dX4_feel_34 : decode cX4_feel 34 = .ok (.aload_n 1, 1) := by decide +kernel
theorem dX4_feel_35 : decode cX4_feel 35 = .ok (.lconst 0, 1) := by decide +kernel
theorem dX4_feel_36 : decode cX4_feel 36 = .ok (.ldc2_w 49, 3) := by decide +kernel
theorem dX4_feel_39 : decode cX4_feel 39 = .ok (.lload_n 2, 1) := by decide +kernel
theorem dX4_feel_40 : decode cX4_feel 40 = .ok (.invokestatic 51, 3) := by decide +kernel
theorem dX4_feel_43 : decode cX4_feel 43 = .ok (.invokestatic 57, 3) := by decide +kernel
theorem dX4_feel_46 : decode cX4_feel 46 = .ok (.l2i, 1) := by decide +kernel
theorem dX4_feel_47 : decode cX4_feel 47 = .ok (.putfield 32, 3) := by decide +kernel
theorem dX4_feel_50 : decode cX4_feel 50 = .ok (.return_, 1) := by decide +kernel
set_option maxRecDepth 20000 in
theorem ggX4_grips_X4_worth : GoodIn wsX4_grips wsX4_worth := goodIn_r _ [6, 7, 8, 1, 9, 10, 11, 12, 13, 14, 15, 16, 17, 18, 19, 20, 21, 22, 23, 24, 25, 5, 26, 27, 28, 37, 38, 39, 40, 41, 42, 29, 30, 31, 32, 33, 34, 35, 36] rfl (by decide +kernel)
set_option maxRecDepth 20000 in
theorem gX4_grips_X4_worth : GoodIn wsX4_grips (wsV RX4 37 RX4 yX4_worth wsX4_worth) := goodIn_app (goodIn_r _ [2, 3, 4, 5] rfl (by decide +kernel)) ggX4_grips_X4_worth
theorem dX4_grips_0 : decode cX4_grips 0 = .ok (.aload_n 0, 1) := by decide +kernel
theorem dX4_grips_1 : decode cX4_grips 1 = .ok (.iconst 1, 1) := by decide +kernel
theorem dX4_grips_2 : decode cX4_grips 2 = .ok (.aload_n 1, 1) := by decide +kernel
theorem dX4_grips_3 : decode cX4_grips 3 = .ok (.invokevirtual 37, 3) := by decide +kernel
theorem dX4_grips_6 : decode cX4_grips 6 = .ok (.lstore_n 2, 1) := by decide +kernel
theorem dX4_grips_7 : decode cX4_grips 7 = .ok (.lload_n 2, 1) := by decide +kernel
theorem dX4_grips_8 : decode cX4_grips 8 = .ok (.ldc2_w 41, 3) := by decide +kernel
theorem dX4_grips_11 : decode cX4_grips 11 = .ok (.lcmp, 1) := by decide +kernel
theorem dX4_grips_12 : decode cX4_grips 12 = .ok (.ifCond .ne 25, 3) := by decide +kernel
theorem dX4_grips_15 : decode cX4_grips 15 = .ok (.aload_n 1, 1) := by decide +kernel
theorem dX4_grips_16 : decode cX4_grips 16 = .ok (.getfield 32, 3) := by decide +kernel
theorem dX4_grips_19 : decode cX4_grips 19 = .ok (.bipush 10, 2) := by decide +kernel
theorem dX4_grips_21 : decode cX4_grips 21 = .ok (.aload_n 1, 1) := by decide +kernel
theorem dX4_grips_22 : decode cX4_grips 22 = .ok (.getfield 60, 3) := by decide +kernel
theorem dX4_grips_25 : decode cX4_grips 25 = .ok (.imul, 1) := by decide +kernel
theorem dX4_grips_26 : decode cX4_grips 26 = .ok (.if_icmp .lt 7, 3) := by decide +kernel
theorem dX4_grips_29 : decode cX4_grips 29 = .ok (.iconst 1, 1) := by decide +kernel
theorem dX4_grips_30 : decode cX4_grips 30 = .ok (.goto 18, 3) := by decide +kernel
theorem dX4_grips_33 : decode cX4_grips 33 = .ok (.iconst 0, 1) := by decide +kernel
theorem dX4_grips_34 : decode cX4_grips 34 = .ok (.goto 14, 3) := by decide +kernel
theorem dX4_grips_37 : decode cX4_grips 37 = .ok (.lload_n 2, 1) := by decide +kernel
theorem dX4_grips_38 : decode cX4_grips 38 = .ok (.lconst 0, 1) := by decide +kernel
theorem dX4_grips_39 : decode cX4_grips 39 = .ok (.lcmp, 1) := by decide +kernel
theorem dX4_grips_40 : decode cX4_grips 40 = .ok (.ifCond .eq 7, 3) := by decide +kernel
theorem dX4_grips_43 : decode cX4_grips 43 = .ok (.iconst 1, 1) := by decide +kernel
theorem dX4_grips_44 : decode cX4_grips 44 = .ok (.goto 4, 3) := by decide +kernel
theorem dX4_grips_47 : decode cX4_grips 47 = .ok (.iconst 0, 1) := by decide +kernel
theorem dX4_grips_48 : decode cX4_grips 48 = .ok (.ireturn, 1) := by decide +kernel
set_option maxRecDepth 20000 in
theorem ggX4_gainOf_X4_worth : GoodIn wsX4_gainOf wsX4_worth := goodIn_r _ [14, 15, 16, 1, 17, 18, 19, 20, 21, 22, 23, 24, 25, 26, 27, 28, 29, 30, 31, 32, 33, 13, 34, 35, 36, 37, 38, 39, 40, 41, 42, 43, 44, 45, 46, 47, 48, 49, 50] rfl (by decide +kernel)
set_option maxRecDepth 20000 in
theorem gX4_gainOf_X4_worth : GoodIn wsX4_gainOf (wsV RX4 37 RX4 yX4_worth wsX4_worth) := goodIn_app (goodIn_r _ [10, 11, 12, 13] rfl (by decide +kernel)) ggX4_gainOf_X4_worth
theorem dX4_gainOf_0 : decode cX4_gainOf 0 = .ok (.aload_n 0, 1) := by decide +kernel
theorem dX4_gainOf_1 : decode cX4_gainOf 1 = .ok (.iconst 2, 1) := by decide +kernel
theorem dX4_gainOf_2 : decode cX4_gainOf 2 = .ok (.aload_n 1, 1) := by decide +kernel
theorem dX4_gainOf_3 : decode cX4_gainOf 3 = .ok (.invokevirtual 37, 3) := by decide +kernel
theorem dX4_gainOf_6 : decode cX4_gainOf 6 = .ok (.lstore_n 2, 1) := by decide +kernel
theorem dX4_gainOf_7 : decode cX4_gainOf 7 = .ok (.lload_n 2, 1) := by decide +kernel
theorem dX4_gainOf_8 : decode cX4_gainOf 8 = .ok (.ldc2_w 41, 3) := by decide +kernel
theorem dX4_gainOf_11 : decode cX4_gainOf 11 = .ok (.lcmp, 1) := by decide +kernel
theorem dX4_gainOf_12 : decode cX4_gainOf 12 = .ok (.ifCond .ne 7, 3) := by decide +kernel
theorem dX4_gainOf_15 : decode cX4_gainOf 15 = .ok (.iconst 1, 1) := by decide +kernel
theorem dX4_gainOf_16 : decode cX4_gainOf 16 = .ok (.goto 15, 3) := by decide +kernel
theorem dX4_gainOf_19 : decode cX4_gainOf 19 = .ok (.lconst 0, 1) := by decide +kernel
theorem dX4_gainOf_20 : decode cX4_gainOf 20 = .ok (.ldc2_w 63, 3) := by decide +kernel
theorem dX4_gainOf_23 : decode cX4_gainOf 23 = .ok (.lload_n 2, 1) := by decide +kernel
theorem dX4_gainOf_24 : decode cX4_gainOf 24 = .ok (.invokestatic 51, 3) := by decide +kernel
theorem dX4_gainOf_27 : decode cX4_gainOf 27 = .ok (.invokestatic 57, 3) := by decide +kernel
theorem dX4_gainOf_30 : decode cX4_gainOf 30 = .ok (.l2i, 1) := by decide +kernel
theorem dX4_gainOf_31 : decode cX4_gainOf 31 = .ok (.ireturn, 1) := by decide +kernel
set_option maxRecDepth 20000 in
theorem ggX4_worth_X8_valueOf : GoodIn wsX4_worth wsX8_valueOf := goodIn_r _ [11, 12, 13, 14, 15, 16, 17, 18, 31, 32, 33, 34, 35, 36, 37, 38] rfl (by decide +kernel)
set_option maxRecDepth 20000 in
theorem gX4_worth_X8_valueOf : GoodIn wsX4_worth (wsV RX4 65 RX8 yX8_valueOf wsX8_valueOf) := goodIn_app (goodIn_r _ [7, 8, 9, 10] rfl (by decide +kernel)) ggX4_worth_X8_valueOf
set_option maxRecDepth 20000 in
theorem ggX4_worth_X4_join : GoodIn wsX4_worth wsX4_join := goodIn_r _ [22, 3, 23, 24] rfl (by decide +kernel)
set_option maxRecDepth 20000 in
theorem gX4_worth_X4_join : GoodIn wsX4_worth (va_wsS RX4 69 yX4_join wsX4_join) := goodIn_app (goodIn_of _ (by decide +kernel)) ggX4_worth_X4_join
theorem dX4_worth_0 : decode cX4_worth 0 = .ok (.iload_n 1, 1) := by decide +kernel
theorem dX4_worth_1 : decode cX4_worth 1 = .ok (.ifCond .lt 23, 3) := by decide +kernel
theorem dX4_worth_4 : decode cX4_worth 4 = .ok (.iload_n 1, 1) := by decide +kernel
theorem dX4_worth_5 : decode cX4_worth 5 = .ok (.iconst 3, 1) := by decide +kernel
theorem dX4_worth_6 : decode cX4_worth 6 = .ok (.if_icmp .ge 18, 3) := by decide +kernel
theorem dX4_worth_9 : decode cX4_worth 9 = .ok (.aload_n 0, 1) := by decide +kernel
theorem dX4_worth_10 : decode cX4_worth 10 = .ok (.getfield 18, 3) := by decide +kernel
theorem dX4_worth_13 : decode cX4_worth 13 = .ok (.iload_n 1, 1) := by decide +kernel
theorem dX4_worth_14 : decode cX4_worth 14 = .ok (.iaload, 1) := by decide +kernel
theorem dX4_worth_15 : decode cX4_worth 15 = .ok (.aload_n 0, 1) := by decide +kernel
theorem dX4_worth_16 : decode cX4_worth 16 = .ok (.getfield 21, 3) := by decide +kernel
theorem dX4_worth_19 : decode cX4_worth 19 = .ok (.iload_n 1, 1) := by decide +kernel
theorem dX4_worth_20 : decode cX4_worth 20 = .ok (.iaload, 1) := by decide +kernel
theorem dX4_worth_21 : decode cX4_worth 21 = .ok (.if_icmp .lt 7, 3) := by decide +kernel
theorem dX4_worth_24 : decode cX4_worth 24 = .ok (.ldc2_w 41, 3) := by decide +kernel
theorem dX4_worth_27 : decode cX4_worth 27 = .ok (.lreturn, 1) := by decide +kernel
theorem dX4_worth_28 : decode cX4_worth 28 = .ok (.iconst 0, 1) := by decide +kernel
theorem dX4_worth_29 : decode cX4_worth 29 = .ok (.istore_n 3, 1) := by decide +kernel
theorem dX4_worth_30 : decode cX4_worth 30 = .ok (.aload_n 0, 1) := by decide +kernel
theorem dX4_worth_31 : decode cX4_worth 31 = .ok (.getfield 18, 3) := by decide +kernel
theorem dX4_worth_34 : decode cX4_worth 34 = .ok (.iload_n 1, 1) := by decide +kernel
theorem dX4_worth_35 : decode cX4_worth 35 = .ok (.iaload, 1) := by decide +kernel
theorem dX4_worth_36 : decode cX4_worth 36 = .ok (.istore 4, 2) := by decide +kernel
theorem dX4_worth_38 : decode cX4_worth 38 = .ok (.iload 4, 2) := by decide +kernel
theorem dX4_worth_40 : decode cX4_worth 40 = .ok (.aload_n 0, 1) := by decide +kernel
theorem dX4_worth_41 : decode cX4_worth 41 = .ok (.getfield 21, 3) := by decide +kernel
theorem dX4_worth_44 : decode cX4_worth 44 = .ok (.iload_n 1, 1) := by decide +kernel
theorem dX4_worth_45 : decode cX4_worth 45 = .ok (.iaload, 1) := by decide +kernel
theorem dX4_worth_46 : decode cX4_worth 46 = .ok (.if_icmp .ge 180, 3) := by decide +kernel
theorem dX4_worth_49 : decode cX4_worth 49 = .ok (.iload 4, 2) := by decide +kernel
theorem dX4_worth_51 : decode cX4_worth 51 = .ok (.bipush 64, 2) := by decide +kernel
theorem dX4_worth_53 : decode cX4_worth 53 = .ok (.if_icmp .ge 173, 3) := by decide +kernel
theorem dX4_worth_56 : decode cX4_worth 56 = .ok (.aload_n 0, 1) := by decide +kernel
theorem dX4_worth_57 : decode cX4_worth 57 = .ok (.getfield 9, 3) := by decide +kernel
theorem dX4_worth_60 : decode cX4_worth 60 = .ok (.iload 4, 2) := by decide +kernel
theorem dX4_worth_62 : decode cX4_worth 62 = .ok (.iaload, 1) := by decide +kernel
theorem dX4_worth_63 : decode cX4_worth 63 = .ok (.istore 5, 2) := by decide +kernel
theorem dX4_worth_65 : decode cX4_worth 65 = .ok (.iload 5, 2) := by decide +kernel
theorem dX4_worth_67 : decode cX4_worth 67 = .ok (.bipush 24, 2) := by decide +kernel
theorem dX4_worth_69 : decode cX4_worth 69 = .ok (.if_icmp .ne 36, 3) := by decide +kernel
theorem dX4_worth_72 : decode cX4_worth 72 = .ok (.iload_n 3, 1) := by decide +kernel
theorem dX4_worth_73 : decode cX4_worth 73 = .ok (.ifCond .le 32, 3) := by decide +kernel
theorem dX4_worth_76 : decode cX4_worth 76 = .ok (.aload_n 0, 1) := by decide +kernel
theorem dX4_worth_77 : decode cX4_worth 77 = .ok (.getfield 24, 3) := by decide +kernel
theorem dX4_worth_80 : decode cX4_worth 80 = .ok (.iload_n 3, 1) := by decide +kernel
theorem dX4_worth_81 : decode cX4_worth 81 = .ok (.iconst 1, 1) := by decide +kernel
theorem dX4_worth_82 : decode cX4_worth 82 = .ok (.isub, 1) := by decide +kernel
theorem dX4_worth_83 : decode cX4_worth 83 = .ok (.aload_n 0, 1) := by decide +kernel
theorem dX4_worth_84 : decode cX4_worth 84 = .ok (.getfield 24, 3) := by decide +kernel
theorem dX4_worth_87 : decode cX4_worth 87 = .ok (.iload_n 3, 1) := by decide +kernel
theorem dX4_worth_88 : decode cX4_worth 88 = .ok (.iconst 1, 1) := by decide +kernel
theorem dX4_worth_89 : decode cX4_worth 89 = .ok (.isub, 1) := by decide +kernel
theorem dX4_worth_90 : decode cX4_worth 90 = .ok (.laload, 1) := by decide +kernel
theorem dX4_worth_91 : decode cX4_worth 91 = .ok (.lconst 0, 1) := by decide +kernel
theorem dX4_worth_92 : decode cX4_worth 92 = .ok (.lcmp, 1) := by decide +kernel
theorem dX4_worth_93 : decode cX4_worth 93 = .ok (.ifCond .ne 7, 3) := by decide +kernel
theorem dX4_worth_96 : decode cX4_worth 96 = .ok (.lconst 1, 1) := by decide +kernel
theorem dX4_worth_97 : decode cX4_worth 97 = .ok (.goto 4, 3) := by decide +kernel
theorem dX4_worth_100 : decode cX4_worth 100 = .ok (.lconst 0, 1) := by decide +kernel
theorem dX4_worth_101 : decode cX4_worth 101 = .ok (.lastore, 1) := by decide +kernel
theorem dX4_worth_102 : decode cX4_worth 102 = .ok (.goto 118, 3) := by decide +kernel
theorem dX4_worth_105 : decode cX4_worth 105 = .ok (.iload 5, 2) := by decide +kernel
theorem dX4_worth_107 : decode cX4_worth 107 = .ok (.iconst 3, 1) := by decide +kernel
theorem dX4_worth_108 : decode cX4_worth 108 = .ok (.if_icmp .eq 17, 3) := by decide +kernel
theorem dX4_worth_111 : decode cX4_worth 111 = .ok (.iload 5, 2) := by decide +kernel
theorem dX4_worth_113 : decode cX4_worth 113 = .ok (.bipush 25, 2) := by decide +kernel
theorem dX4_worth_115 : decode cX4_worth 115 = .ok (.if_icmp .lt 51, 3) := by decide +kernel
theorem dX4_worth_118 : decode cX4_worth 118 = .ok (.iload 5, 2) := by decide +kernel
theorem dX4_worth_120 : decode cX4_worth 120 = .ok (.bipush 31, 2) := by decide +kernel
theorem dX4_worth_122 : decode cX4_worth 122 = .ok (.if_icmp .gt 44, 3) := by decide +kernel
theorem dX4_worth_125 : decode cX4_worth 125 = .ok (.iload_n 3, 1) := by decide +kernel
theorem dX4_worth_126 : decode cX4_worth 126 = .ok (.bipush 64, 2) := by decide +kernel
theorem dX4_worth_128 : decode cX4_worth 128 = .ok (.if_icmp .ge 92, 3) := by decide +kernel
theorem dX4_worth_131 : decode cX4_worth 131 = .ok (.aload_n 0, 1) := by decide +kernel
theorem dX4_worth_132 : decode cX4_worth 132 = .ok (.getfield 24, 3) := by decide +kernel
theorem dX4_worth_135 : decode cX4_worth 135 = .ok (.iload_n 3, 1) := by decide +kernel
theorem dX4_worth_136 : decode cX4_worth 136 = .ok (.iload 5, 2) := by decide +kernel
theorem dX4_worth_138 : decode cX4_worth 138 = .ok (.iconst 3, 1) := by decide +kernel
theorem dX4_worth_139 : decode cX4_worth 139 = .ok (.if_icmp .ne 14, 3) := by decide +kernel
theorem dX4_worth_142 : decode cX4_worth 142 = .ok (.aload_n 0, 1) := by decide +kernel
theorem dX4_worth_143 : decode cX4_worth 143 = .ok (.getfield 15, 3) := by decide +kernel
theorem dX4_worth_146 : decode cX4_worth 146 = .ok (.iload 4, 2) := by decide +kernel
theorem dX4_worth_148 : decode cX4_worth 148 = .ok (.iaload, 1) := by decide +kernel
theorem dX4_worth_149 : decode cX4_worth 149 = .ok (.i2l, 1) := by decide +kernel
theorem dX4_worth_150 : decode cX4_worth 150 = .ok (.goto 9, 3) := by decide +kernel
theorem dX4_worth_153 : decode cX4_worth 153 = .ok (.aload_n 2, 1) := by decide +kernel
theorem dX4_worth_154 : decode cX4_worth 154 = .ok (.iload 5, 2) := by decide +kernel
theorem dX4_worth_156 : decode cX4_worth 156 = .ok (.invokevirtual 65, 3) := by decide +kernel
theorem dX4_worth_159 : decode cX4_worth 159 = .ok (.lastore, 1) := by decide +kernel
theorem dX4_worth_160 : decode cX4_worth 160 = .ok (.iinc 3 1, 3) := by decide +kernel
theorem dX4_worth_163 : decode cX4_worth 163 = .ok (.goto 57, 3) := by decide +kernel
theorem dX4_worth_166 : decode cX4_worth 166 = .ok (.iload_n 3, 1) := by decide +kernel
theorem dX4_worth_167 : decode cX4_worth 167 = .ok (.iconst 1, 1) := by decide +kernel
theorem dX4_worth_168 : decode cX4_worth 168 = .ok (.if_icmp .le 52, 3) := by decide +kernel
theorem dX4_worth_171 : decode cX4_worth 171 = .ok (.iinc 3 (-1), 3) := by decide +kernel
theorem dX4_worth_174 : decode cX4_worth 174 = .ok (.aload_n 0, 1) := by decide +kernel
theorem dX4_worth_175 : decode cX4_worth 175 = .ok (.getfield 24, 3) := by decide +kernel
theorem dX4_worth_178 : decode cX4_worth 178 = .ok (.iload_n 3, 1) := by decide +kernel
theorem dX4_worth_179 : decode cX4_worth 179 = .ok (.iconst 1, 1) := by decide +kernel
theorem dX4_worth_180 : decode cX4_worth 180 = .ok (.isub, 1) := by decide +kernel
theorem dX4_worth_181 : decode cX4_worth 181 = .ok (.iload 5, 2) := by decide +kernel
theorem dX4_worth_183 : decode cX4_worth 183 = .ok (.aload_n 0, 1) := by decide +kernel
theorem dX4_worth_184 : decode cX4_worth 184 = .ok (.getfield 24, 3) := by decide +kernel
theorem dX4_worth_187 : decode cX4_worth 187 = .ok (.iload_n 3, 1) := by decide +kernel
theorem dX4_worth_188 : decode cX4_worth 188 = .ok (.iconst 1, 1) := by decide +kernel
theorem dX4_worth_189 : decode cX4_worth 189 = .ok (.isub, 1) := by decide +kernel
theorem dX4_worth_190 : decode cX4_worth 190 = .ok (.laload, 1) := by decide +kernel
theorem dX4_worth_191 : decode cX4_worth 191 = .ok (.aload_n 0, 1) := by decide +kernel
theorem dX4_worth_192 : decode cX4_worth 192 = .ok (.getfield 24, 3) := by decide +kernel
theorem dX4_worth_195 : decode cX4_worth 195 = .ok (.iload_n 3, 1) := by decide +kernel
theorem dX4_worth_196 : decode cX4_worth 196 = .ok (.laload, 1) := by decide +kernel
theorem dX4_worth_197 : decode cX4_worth 197 = .ok (.invokestatic 69, 3) := by decide +kernel
theorem dX4_worth_200 : decode cX4_worth 200 = .ok (.lastore, 1) := by decide +kernel
theorem dX4_worth_201 : decode cX4_worth 201 = .ok (.aload_n 0, 1) := by decide +kernel
theorem dX4_worth_202 : decode cX4_worth 202 = .ok (.getfield 24, 3) := by decide +kernel
theorem dX4_worth_205 : decode cX4_worth 205 = .ok (.iload_n 3, 1) := by decide +kernel
theorem dX4_worth_206 : decode cX4_worth 206 = .ok (.iconst 1, 1) := by decide +kernel
theorem dX4_worth_207 : decode cX4_worth 207 = .ok (.isub, 1) := by decide +kernel
theorem dX4_worth_208 : decode cX4_worth 208 = .ok (.laload, 1) := by decide +kernel
theorem dX4_worth_209 : decode cX4_worth 209 = .ok (.ldc2_w 41, 3) := by decide +kernel
theorem dX4_worth_212 : decode cX4_worth 212 = .ok (.lcmp, 1) := by decide +kernel
theorem dX4_worth_213 : decode cX4_worth 213 = .ok (.ifCond .ne 7, 3) := by decide +kernel
theorem dX4_worth_216 : decode cX4_worth 216 = .ok (.ldc2_w 41, 3) := by decide +kernel
theorem dX4_worth_219 : decode cX4_worth 219 = .ok (.lreturn, 1) := by decide +kernel
theorem dX4_worth_220 : decode cX4_worth 220 = .ok (.iinc 4 1, 3) := by decide +kernel
theorem dX4_worth_223 : decode cX4_worth 223 = .ok (.goto (-185), 3) := by decide +kernel
theorem dX4_worth_226 : decode cX4_worth 226 = .ok (.aload_n 0, 1) := by decide +kernel
theorem dX4_worth_227 : decode cX4_worth 227 = .ok (.getfield 24, 3) := by decide +kernel
theorem dX4_worth_230 : decode cX4_worth 230 = .ok (.iconst 0, 1) := by decide +kernel
theorem dX4_worth_231 : decode cX4_worth 231 = .ok (.laload, 1) := by decide +kernel
theorem dX4_worth_232 : decode cX4_worth 232 = .ok (.lreturn, 1) := by decide +kernel
theorem dX4_join_0 : decode cX4_join 0 = .ok (.iload_n 0, 1) := by decide +kernel
theorem dX4_join_1 : decode cX4_join 1 = .ok (.tableswitch 263 22 52 #[139, 157, 263, 263, 263, 263, 263, 263, 263, 263, 263, 263, 263, 263, 263, 263, 263, 263, 263, 263, 263, 263, 263, 263, 247, 175, 187, 199, 211, 223, 235], 139) := by decide +kernel
theorem dX4_join_140 : decode cX4_join 140 = .ok (.lload_n 1, 1) := by decide +kernel
theorem dX4_join_141 : decode cX4_join 141 = .ok (.lconst 0, 1) := by decide +kernel
theorem dX4_join_142 : decode cX4_join 142 = .ok (.lcmp, 1) := by decide +kernel
theorem dX4_join_143 : decode cX4_join 143 = .ok (.ifCond .ne 9, 3) := by decide +kernel
theorem dX4_join_146 : decode cX4_join 146 = .ok (.lload_n 3, 1) := by decide +kernel
theorem dX4_join_147 : decode cX4_join 147 = .ok (.lconst 0, 1) := by decide +kernel
theorem dX4_join_148 : decode cX4_join 148 = .ok (.lcmp, 1) := by decide +kernel
theorem dX4_join_149 : decode cX4_join 149 = .ok (.ifCond .eq 7, 3) := by decide +kernel
theorem dX4_join_152 : decode cX4_join 152 = .ok (.lconst 1, 1) := by decide +kernel
theorem dX4_join_153 : decode cX4_join 153 = .ok (.goto 4, 3) := by decide +kernel
theorem dX4_join_156 : decode cX4_join 156 = .ok (.lconst 0, 1) := by decide +kernel
theorem dX4_join_157 : decode cX4_join 157 = .ok (.lreturn, 1) := by decide +kernel
theorem dX4_join_158 : decode cX4_join 158 = .ok (.lload_n 1, 1) := by decide +kernel
theorem dX4_join_159 : decode cX4_join 159 = .ok (.lconst 0, 1) := by decide +kernel
theorem dX4_join_160 : decode cX4_join 160 = .ok (.lcmp, 1) := by decide +kernel
theorem dX4_join_161 : decode cX4_join 161 = .ok (.ifCond .eq 13, 3) := by decide +kernel
theorem dX4_join_164 : decode cX4_join 164 = .ok (.lload_n 3, 1) := by decide +kernel
theorem dX4_join_165 : decode cX4_join 165 = .ok (.lconst 0, 1) := by decide +kernel
theorem dX4_join_166 : decode cX4_join 166 = .ok (.lcmp, 1) := by decide +kernel
theorem dX4_join_167 : decode cX4_join 167 = .ok (.ifCond .eq 7, 3) := by decide +kernel
theorem dX4_join_170 : decode cX4_join 170 = .ok (.lconst 1, 1) := by decide +kernel
theorem dX4_join_171 : decode cX4_join 171 = .ok (.goto 4, 3) := by decide +kernel
theorem dX4_join_174 : decode cX4_join 174 = .ok (.lconst 0, 1) := by decide +kernel
theorem dX4_join_175 : decode cX4_join 175 = .ok (.lreturn, 1) := by decide +kernel
theorem dX4_join_176 : decode cX4_join 176 = .ok (.lload_n 1, 1) := by decide +kernel
theorem dX4_join_177 : decode cX4_join 177 = .ok (.lload_n 3, 1) := by decide +kernel
theorem dX4_join_178 : decode cX4_join 178 = .ok (.lcmp, 1) := by decide +kernel
theorem dX4_join_179 : decode cX4_join 179 = .ok (.ifCond .ge 7, 3) := by decide +kernel
theorem dX4_join_182 : decode cX4_join 182 = .ok (.lconst 1, 1) := by decide +kernel
theorem dX4_join_183 : decode cX4_join 183 = .ok (.goto 4, 3) := by decide +kernel
theorem dX4_join_186 : decode cX4_join 186 = .ok (.lconst 0, 1) := by decide +kernel
theorem dX4_join_187 : decode cX4_join 187 = .ok (.lreturn, 1) := by decide +kernel
theorem dX4_join_188 : decode cX4_join 188 = .ok (.lload_n 1, 1) := by decide +kernel
theorem dX4_join_189 : decode cX4_join 189 = .ok (.lload_n 3, 1) := by decide +kernel
theorem dX4_join_190 : decode cX4_join 190 = .ok (.lcmp, 1) := by decide +kernel
theorem dX4_join_191 : decode cX4_join 191 = .ok (.ifCond .gt 7, 3) := by decide +kernel
theorem dX4_join_194 : decode cX4_join 194 = .ok (.lconst 1, 1) := by decide +kernel
theorem dX4_join_195 : decode cX4_join 195 = .ok (.goto 4, 3) := by decide +kernel
theorem dX4_join_198 : decode cX4_join 198 = .ok (.lconst 0, 1) := by decide +kernel
theorem dX4_join_199 : decode cX4_join 199 = .ok (.lreturn, 1) := by decide +kernel
theorem dX4_join_200 : decode cX4_join 200 = .ok (.lload_n 1, 1) := by decide +kernel
theorem dX4_join_201 : decode cX4_join 201 = .ok (.lload_n 3, 1) := by decide +kernel
theorem dX4_join_202 : decode cX4_join 202 = .ok (.lcmp, 1) := by decide +kernel
theorem dX4_join_203 : decode cX4_join 203 = .ok (.ifCond .ne 7, 3) := by decide +kernel
theorem dX4_join_206 : decode cX4_join 206 = .ok (.lconst 1, 1) := by decide +kernel
theorem dX4_join_207 : decode cX4_join 207 = .ok (.goto 4, 3) := by decide +kernel
theorem dX4_join_210 : decode cX4_join 210 = .ok (.lconst 0, 1) := by decide +kernel
theorem dX4_join_211 : decode cX4_join 211 = .ok (.lreturn, 1) := by decide +kernel
theorem dX4_join_212 : decode cX4_join 212 = .ok (.lload_n 1, 1) := by decide +kernel
theorem dX4_join_213 : decode cX4_join 213 = .ok (.lload_n 3, 1) := by decide +kernel
theorem dX4_join_214 : decode cX4_join 214 = .ok (.lcmp, 1) := by decide +kernel
theorem dX4_join_215 : decode cX4_join 215 = .ok (.ifCond .eq 7, 3) := by decide +kernel
theorem dX4_join_218 : decode cX4_join 218 = .ok (.lconst 1, 1) := by decide +kernel
theorem dX4_join_219 : decode cX4_join 219 = .ok (.goto 4, 3) := by decide +kernel
theorem dX4_join_222 : decode cX4_join 222 = .ok (.lconst 0, 1) := by decide +kernel
theorem dX4_join_223 : decode cX4_join 223 = .ok (.lreturn, 1) := by decide +kernel
theorem dX4_join_224 : decode cX4_join 224 = .ok (.lload_n 1, 1) := by decide +kernel
theorem dX4_join_225 : decode cX4_join 225 = .ok (.lload_n 3, 1) := by decide +kernel
theorem dX4_join_226 : decode cX4_join 226 = .ok (.lcmp, 1) := by decide +kernel
theorem dX4_join_227 : decode cX4_join 227 = .ok (.ifCond .lt 7, 3) := by decide +kernel
theorem dX4_join_230 : decode cX4_join 230 = .ok (.lconst 1, 1) := by decide +kernel
theorem dX4_join_231 : decode cX4_join 231 = .ok (.goto 4, 3) := by decide +kernel
theorem dX4_join_234 : decode cX4_join 234 = .ok (.lconst 0, 1) := by decide +kernel
theorem dX4_join_235 : decode cX4_join 235 = .ok (.lreturn, 1) := by decide +kernel
theorem dX4_join_236 : decode cX4_join 236 = .ok (.lload_n 1, 1) := by decide +kernel
theorem dX4_join_237 : decode cX4_join 237 = .ok (.lload_n 3, 1) := by decide +kernel
theorem dX4_join_238 : decode cX4_join 238 = .ok (.lcmp, 1) := by decide +kernel
theorem dX4_join_239 : decode cX4_join 239 = .ok (.ifCond .le 7, 3) := by decide +kernel
theorem dX4_join_242 : decode cX4_join 242 = .ok (.lconst 1, 1) := by decide +kernel
theorem dX4_join_243 : decode cX4_join 243 = .ok (.goto 4, 3) := by decide +kernel
theorem dX4_join_246 : decode cX4_join 246 = .ok (.lconst 0, 1) := by decide +kernel
theorem dX4_join_247 : decode cX4_join 247 = .ok (.lreturn, 1) := by decide +kernel
theorem dX4_join_248 : decode cX4_join 248 = .ok (.lload_n 3, 1) := by decide +kernel
theorem dX4_join_249 : decode cX4_join 249 = .ok (.lconst 0, 1) := by decide +kernel
theorem dX4_join_250 : decode cX4_join 250 = .ok (.lcmp, 1) := by decide +kernel
theorem dX4_join_251 : decode cX4_join 251 = .ok (.ifCond .ne 9, 3) := by decide +kernel
theorem dX4_join_254 : decode cX4_join 254 = .ok (.ldc2_w 41, 3) := by decide +kernel
theorem dX4_join_257 : decode cX4_join 257 = .ok (.goto 6, 3) := by decide +kernel
theorem dX4_join_260 : decode cX4_join 260 = .ok (.lload_n 1, 1) := by decide +kernel
theorem dX4_join_261 : decode cX4_join 261 = .ok (.lload_n 3, 1) := by decide +kernel
theorem dX4_join_262 : decode cX4_join 262 = .ok (.ldiv, 1) := by decide +kernel
theorem dX4_join_263 : decode cX4_join 263 = .ok (.lreturn, 1) := by decide +kernel
theorem dX4_join_264 : decode cX4_join 264 = .ok (.iload_n 0, 1) := by decide +kernel
theorem dX4_join_265 : decode cX4_join 265 = .ok (.bipush 45, 2) := by decide +kernel
theorem dX4_join_267 : decode cX4_join 267 = .ok (.if_icmp .ne 45, 3) := by decide +kernel
theorem dX4_join_270 : decode cX4_join 270 = .ok (.lload_n 1, 1) := by decide +kernel
theorem dX4_join_271 : decode cX4_join 271 = .ok (.lconst 0, 1) := by decide +kernel
theorem dX4_join_272 : decode cX4_join 272 = .ok (.lcmp, 1) := by decide +kernel
theorem dX4_join_273 : decode cX4_join 273 = .ok (.ifCond .eq 39, 3) := by decide +kernel
theorem dX4_join_276 : decode cX4_join 276 = .ok (.lload_n 3, 1) := by decide +kernel
theorem dX4_join_277 : decode cX4_join 277 = .ok (.lconst 0, 1) := by decide +kernel
theorem dX4_join_278 : decode cX4_join 278 = .ok (.lcmp, 1) := by decide +kernel
theorem dX4_join_279 : decode cX4_join 279 = .ok (.ifCond .ge 8, 3) := by decide +kernel
theorem dX4_join_282 : decode cX4_join 282 = .ok (.lload_n 3, 1) := by decide +kernel
theorem dX4_join_283 : decode cX4_join 283 = .ok (.lneg, 1) := by decide +kernel
theorem dX4_join_284 : decode cX4_join 284 = .ok (.goto 4, 3) := by decide +kernel
theorem dX4_join_287 : decode cX4_join 287 = .ok (.lload_n 3, 1) := by decide +kernel
theorem dX4_join_288 : decode cX4_join 288 = .ok (.ldc2_w 73, 3) := by decide +kernel
theorem dX4_join_291 : decode cX4_join 291 = .ok (.lload_n 1, 1) := by decide +kernel
theorem dX4_join_292 : decode cX4_join 292 = .ok (.lconst 0, 1) := by decide +kernel
theorem dX4_join_293 : decode cX4_join 293 = .ok (.lcmp, 1) := by decide +kernel
theorem dX4_join_294 : decode cX4_join 294 = .ok (.ifCond .ge 8, 3) := by decide +kernel
theorem dX4_join_297 : decode cX4_join 297 = .ok (.lload_n 1, 1) := by decide +kernel
theorem dX4_join_298 : decode cX4_join 298 = .ok (.lneg, 1) := by decide +kernel
theorem dX4_join_299 : decode cX4_join 299 = .ok (.goto 4, 3) := by decide +kernel
theorem dX4_join_302 : decode cX4_join 302 = .ok (.lload_n 1, 1) := by decide +kernel
theorem dX4_join_303 : decode cX4_join 303 = .ok (.ldiv, 1) := by decide +kernel
theorem dX4_join_304 : decode cX4_join 304 = .ok (.lcmp, 1) := by decide +kernel
theorem dX4_join_305 : decode cX4_join 305 = .ok (.ifCond .le 7, 3) := by decide +kernel
theorem dX4_join_308 : decode cX4_join 308 = .ok (.ldc2_w 41, 3) := by decide +kernel
theorem dX4_join_311 : decode cX4_join 311 = .ok (.lreturn, 1) := by decide +kernel
theorem dX4_join_312 : decode cX4_join 312 = .ok (.iload_n 0, 1) := by decide +kernel
theorem dX4_join_313 : decode cX4_join 313 = .ok (.bipush 45, 2) := by decide +kernel
theorem dX4_join_315 : decode cX4_join 315 = .ok (.if_icmp .ne 9, 3) := by decide +kernel
theorem dX4_join_318 : decode cX4_join 318 = .ok (.lload_n 1, 1) := by decide +kernel
theorem dX4_join_319 : decode cX4_join 319 = .ok (.lload_n 3, 1) := by decide +kernel
theorem dX4_join_320 : decode cX4_join 320 = .ok (.lmul, 1) := by decide +kernel
theorem dX4_join_321 : decode cX4_join 321 = .ok (.goto 18, 3) := by decide +kernel
theorem dX4_join_324 : decode cX4_join 324 = .ok (.iload_n 0, 1) := by decide +kernel
theorem dX4_join_325 : decode cX4_join 325 = .ok (.bipush 43, 2) := by decide +kernel
theorem dX4_join_327 : decode cX4_join 327 = .ok (.if_icmp .ne 9, 3) := by decide +kernel
theorem dX4_join_330 : decode cX4_join 330 = .ok (.lload_n 1, 1) := by decide +kernel
theorem dX4_join_331 : decode cX4_join 331 = .ok (.lload_n 3, 1) := by decide +kernel
theorem dX4_join_332 : decode cX4_join 332 = .ok (.ladd, 1) := by decide +kernel
theorem dX4_join_333 : decode cX4_join 333 = .ok (.goto 6, 3) := by decide +kernel
theorem dX4_join_336 : decode cX4_join 336 = .ok (.lload_n 1, 1) := by decide +kernel
theorem dX4_join_337 : decode cX4_join 337 = .ok (.lload_n 3, 1) := by decide +kernel
theorem dX4_join_338 : decode cX4_join 338 = .ok (.lsub, 1) := by decide +kernel
theorem dX4_join_339 : decode cX4_join 339 = .ok (.lstore 5, 2) := by decide +kernel
theorem dX4_join_341 : decode cX4_join 341 = .ok (.lload 5, 2) := by decide +kernel
theorem dX4_join_343 : decode cX4_join 343 = .ok (.ldc2_w 73, 3) := by decide +kernel
theorem dX4_join_346 : decode cX4_join 346 = .ok (.lcmp, 1) := by decide +kernel
theorem dX4_join_347 : decode cX4_join 347 = .ok (.ifCond .gt 12, 3) := by decide +kernel
theorem dX4_join_350 : decode cX4_join 350 = .ok (.lload 5, 2) := by decide +kernel
theorem dX4_join_352 : decode cX4_join 352 = .ok (.ldc2_w 75, 3) := by decide +kernel
theorem dX4_join_355 : decode cX4_join 355 = .ok (.lcmp, 1) := by decide +kernel
theorem dX4_join_356 : decode cX4_join 356 = .ok (.ifCond .ge 9, 3) := by decide +kernel
theorem dX4_join_359 : decode cX4_join 359 = .ok (.ldc2_w 41, 3) := by decide +kernel
theorem dX4_join_362 : decode cX4_join 362 = .ok (.goto 5, 3) := by decide +kernel
theorem dX4_join_365 : decode cX4_join 365 = .ok (.lload 5, 2) := by decide +kernel
theorem dX4_join_367 : decode cX4_join 367 = .ok (.lreturn, 1) := by decide +kernel
theorem dX5_init_0 : decode cX5_init 0 = .ok (.aload_n 0, 1) := by decide +kernel
theorem dX5_init_1 : decode cX5_init 1 = .ok (.invokespecial 3, 3) := by decide +kernel
theorem dX5_init_4 : decode cX5_init 4 = .ok (.aload_n 0, 1) := by decide +kernel
theorem dX5_init_5 : decode cX5_init 5 = .ok (.bipush 8, 2) := by decide +kernel
theorem dX5_init_7 : decode cX5_init 7 = .ok (.newarray .int, 2) := by decide +kernel
theorem dX5_init_9 : decode cX5_init 9 = .ok (.putfield 9, 3) := by decide +kernel
theorem dX5_init_12 : decode cX5_init 12 = .ok (.aload_n 0, 1) := by decide +kernel
theorem dX5_init_13 : decode cX5_init 13 = .ok (.bipush 8, 2) := by decide +kernel
theorem dX5_init_15 : decode cX5_init 15 = .ok (.newarray .int, 2) := by decide +kernel
theorem dX5_init_17 : decode cX5_init 17 = .ok (.putfield 15, 3) := by decide +kernel
theorem dX5_init_20 : decode cX5_init 20 = .ok (.aload_n 0, 1) := by decide +kernel
theorem dX5_init_21 : decode cX5_init 21 = .ok (.bipush 8, 2) := by decide +kernel
theorem dX5_init_23 : decode cX5_init 23 = .ok (.newarray .int, 2) := by decide +kernel
theorem dX5_init_25 : decode cX5_init 25 = .ok (.putfield 18, 3) := by decide +kernel
theorem dX5_init_28 : decode cX5_init 28 = .ok (.aload_n 0, 1) := by decide +kernel
theorem dX5_init_29 : decode cX5_init 29 = .ok (.iconst (-1), 1) := by decide +kernel
theorem dX5_init_30 : decode cX5_init 30 = .ok (.putfield 21, 3) := by decide +kernel
theorem dX5_init_33 : decode cX5_init 33 = .ok (.aload_n 0, 1) := by decide +kernel
theorem dX5_init_34 : decode cX5_init 34 = .ok (.iconst (-1), 1) := by decide +kernel
theorem dX5_init_35 : decode cX5_init 35 = .ok (.putfield 25, 3) := by decide +kernel
theorem dX5_init_38 : decode cX5_init 38 = .ok (.aload_n 0, 1) := by decide +kernel
theorem dX5_init_39 : decode cX5_init 39 = .ok (.iconst (-1), 1) := by decide +kernel
theorem dX5_init_40 : decode cX5_init 40 = .ok (.putfield 28, 3) := by decide +kernel
theorem dX5_init_43 : decode cX5_init 43 = .ok (.return_, 1) := by decide +kernel
set_option maxRecDepth 20000 in
theorem ggX5_begin_X0_firstBay : GoodIn wsX5_begin wsX0_firstBay := goodIn_r _ [17, 18, 19, 32, 33, 34, 35, 36, 37, 38, 39, 40, 41, 42, 43, 44, 45, 46] rfl (by decide +kernel)
set_option maxRecDepth 20000 in
theorem gX5_begin_X0_firstBay : GoodIn wsX5_begin (wsV RX5 34 RX0 yX0_firstBay wsX0_firstBay) := goodIn_app (goodIn_r _ [13, 14, 15, 16] rfl (by decide +kernel)) ggX5_begin_X0_firstBay
theorem dX5_begin_0 : decode cX5_begin 0 = .ok (.iconst 0, 1) := by decide +kernel
theorem dX5_begin_1 : decode cX5_begin 1 = .ok (.istore_n 2, 1) := by decide +kernel
theorem dX5_begin_2 : decode cX5_begin 2 = .ok (.iload_n 2, 1) := by decide +kernel
theorem dX5_begin_3 : decode cX5_begin 3 = .ok (.bipush 8, 2) := by decide +kernel
theorem dX5_begin_5 : decode cX5_begin 5 = .ok (.if_icmp .ge 30, 3) := by decide +kernel
theorem dX5_begin_8 : decode cX5_begin 8 = .ok (.aload_n 0, 1) := by decide +kernel
theorem dX5_begin_9 : decode cX5_begin 9 = .ok (.getfield 9, 3) := by decide +kernel
theorem dX5_begin_12 : decode cX5_begin 12 = .ok (.iload_n 2, 1) := by decide +kernel
theorem dX5_begin_13 : decode cX5_begin 13 = .ok (.iconst 0, 1) := by decide +kernel
theorem dX5_begin_14 : decode cX5_begin 14 = .ok (.iastore, 1) := by decide +kernel
theorem dX5_begin_15 : decode cX5_begin 15 = .ok (.aload_n 0, 1) := by decide +kernel
theorem dX5_begin_16 : decode cX5_begin 16 = .ok (.getfield 15, 3) := by decide +kernel
theorem dX5_begin_19 : decode cX5_begin 19 = .ok (.iload_n 2, 1) := by decide +kernel
theorem dX5_begin_20 : decode cX5_begin 20 = .ok (.iconst 0, 1) := by decide +kernel
theorem dX5_begin_21 : decode cX5_begin 21 = .ok (.iastore, 1) := by decide +kernel
theorem dX5_begin_22 : decode cX5_begin 22 = .ok (.aload_n 0, 1) := by decide +kernel
theorem dX5_begin_23 : decode cX5_begin 23 = .ok (.getfield 18, 3) := by decide +kernel
theorem dX5_begin_26 : decode cX5_begin 26 = .ok (.iload_n 2, 1) := by decide +kernel
theorem dX5_begin_27 : decode cX5_begin 27 = .ok (.iconst (-1), 1) := by decide +kernel
theorem dX5_begin_28 : decode cX5_begin 28 = .ok (.iastore, 1) := by decide +kernel
theorem dX5_begin_29 : decode cX5_begin 29 = .ok (.iinc 2 1, 3) := by decide +kernel
theorem dX5_begin_32 : decode cX5_begin 32 = .ok (.goto (-30), 3) := by decide +kernel
theorem dX5_begin_35 : decode cX5_begin 35 = .ok (.aload_n 0, 1) := by decide +kernel
theorem dX5_begin_36 : decode cX5_begin 36 = .ok (.iconst 0, 1) := by decide +kernel
theorem dX5_begin_37 : decode cX5_begin 37 = .ok (.putfield 31, 3) := by decide +kernel
theorem dX5_begin_40 : decode cX5_begin 40 = .ok (.aload_n 0, 1) := by decide +kernel
theorem dX5_begin_41 : decode cX5_begin 41 = .ok (.aload_n 1, 1) := by decide +kernel
theorem dX5_begin_42 : decode cX5_begin 42 = .ok (.invokevirtual 34, 3) := by decide +kernel
theorem dX5_begin_45 : decode cX5_begin 45 = .ok (.putfield 21, 3) := by decide +kernel
theorem dX5_begin_48 : decode cX5_begin 48 = .ok (.aload_n 0, 1) := by decide +kernel
theorem dX5_begin_49 : decode cX5_begin 49 = .ok (.iconst (-1), 1) := by decide +kernel
theorem dX5_begin_50 : decode cX5_begin 50 = .ok (.putfield 25, 3) := by decide +kernel
theorem dX5_begin_53 : decode cX5_begin 53 = .ok (.aload_n 0, 1) := by decide +kernel
theorem dX5_begin_54 : decode cX5_begin 54 = .ok (.iconst (-1), 1) := by decide +kernel
theorem dX5_begin_55 : decode cX5_begin 55 = .ok (.putfield 28, 3) := by decide +kernel
theorem dX5_begin_58 : decode cX5_begin 58 = .ok (.aload_n 0, 1) := by decide +kernel
theorem dX5_begin_59 : decode cX5_begin 59 = .ok (.iconst 0, 1) := by decide +kernel
theorem dX5_begin_60 : decode cX5_begin 60 = .ok (.putfield 40, 3) := by decide +kernel
theorem dX5_begin_63 : decode cX5_begin 63 = .ok (.aload_n 0, 1) := by decide +kernel
theorem dX5_begin_64 : decode cX5_begin 64 = .ok (.aload_n 1, 1) := by decide +kernel
theorem dX5_begin_65 : decode cX5_begin 65 = .ok (.getfield 44, 3) := by decide +kernel
theorem dX5_begin_68 : decode cX5_begin 68 = .ok (.i2l, 1) := by decide +kernel
theorem dX5_begin_69 : decode cX5_begin 69 = .ok (.putfield 47, 3) := by decide +kernel
theorem dX5_begin_72 : decode cX5_begin 72 = .ok (.aload_n 0, 1) := by decide +kernel
theorem dX5_begin_73 : decode cX5_begin 73 = .ok (.iconst 0, 1) := by decide +kernel
theorem dX5_begin_74 : decode cX5_begin 74 = .ok (.putfield 51, 3) := by decide +kernel
theorem dX5_begin_77 : decode cX5_begin 77 = .ok (.aload_n 0, 1) := by decide +kernel
theorem dX5_begin_78 : decode cX5_begin 78 = .ok (.iconst 0, 1) := by decide +kernel
theorem dX5_begin_79 : decode cX5_begin 79 = .ok (.putfield 54, 3) := by decide +kernel
theorem dX5_begin_82 : decode cX5_begin 82 = .ok (.aload_n 0, 1) := by decide +kernel
theorem dX5_begin_83 : decode cX5_begin 83 = .ok (.iconst 0, 1) := by decide +kernel
theorem dX5_begin_84 : decode cX5_begin 84 = .ok (.putfield 57, 3) := by decide +kernel
theorem dX5_begin_87 : decode cX5_begin 87 = .ok (.return_, 1) := by decide +kernel
theorem dX5_take_0 : decode cX5_take 0 = .ok (.iconst 0, 1) := by decide +kernel
theorem dX5_take_1 : decode cX5_take 1 = .ok (.istore_n 2, 1) := by decide +kernel
theorem dX5_take_2 : decode cX5_take 2 = .ok (.iload_n 2, 1) := by decide +kernel
theorem dX5_take_3 : decode cX5_take 3 = .ok (.bipush 8, 2) := by decide +kernel
theorem dX5_take_5 : decode cX5_take 5 = .ok (.if_icmp .ge 45, 3) := by decide +kernel
theorem dX5_take_8 : decode cX5_take 8 = .ok (.aload_n 0, 1) := by decide +kernel
theorem dX5_take_9 : decode cX5_take 9 = .ok (.getfield 9, 3) := by decide +kernel
theorem dX5_take_12 : decode cX5_take 12 = .ok (.iload_n 2, 1) := by decide +kernel
theorem dX5_take_13 : decode cX5_take 13 = .ok (.aload_n 1, 1) := by decide +kernel
theorem dX5_take_14 : decode cX5_take 14 = .ok (.getfield 9, 3) := by decide +kernel
theorem dX5_take_17 : decode cX5_take 17 = .ok (.iload_n 2, 1) := by decide +kernel
theorem dX5_take_18 : decode cX5_take 18 = .ok (.iaload, 1) := by decide +kernel
theorem dX5_take_19 : decode cX5_take 19 = .ok (.iastore, 1) := by decide +kernel
theorem dX5_take_20 : decode cX5_take 20 = .ok (.aload_n 0, 1) := by decide +kernel
theorem dX5_take_21 : decode cX5_take 21 = .ok (.getfield 15, 3) := by decide +kernel
theorem dX5_take_24 : decode cX5_take 24 = .ok (.iload_n 2, 1) := by decide +kernel
theorem dX5_take_25 : decode cX5_take 25 = .ok (.aload_n 1, 1) := by decide +kernel
theorem dX5_take_26 : decode cX5_take 26 = .ok (.getfield 15, 3) := by decide +kernel
theorem dX5_take_29 : decode cX5_take 29 = .ok (.iload_n 2, 1) := by decide +kernel
theorem dX5_take_30 : decode cX5_take 30 = .ok (.iaload, 1) := by decide +kernel
theorem dX5_take_31 : decode cX5_take 31 = .ok (.iastore, 1) := by decide +kernel
theorem dX5_take_32 : decode cX5_take 32 = .ok (.aload_n 0, 1) := by decide +kernel
theorem dX5_take_33 : decode cX5_take 33 = .ok (.getfield 18, 3) := by decide +kernel
theorem dX5_take_36 : decode cX5_take 36 = .ok (.iload_n 2, 1) := by decide +kernel
theorem dX5_take_37 : decode cX5_take 37 = .ok (.aload_n 1, 1) := by decide +kernel
theorem dX5_take_38 : decode cX5_take 38 = .ok (.getfield 18, 3) := by decide +kernel
theorem dX5_take_41 : decode cX5_take 41 = .ok (.iload_n 2, 1) := by decide +kernel
theorem dX5_take_42 : decode cX5_take 42 = .ok (.iaload, 1) := by decide +kernel
theorem dX5_take_43 : decode cX5_take 43 = .ok (.iastore, 1) := by decide +kernel
theorem dX5_take_44 : decode cX5_take 44 = .ok (.iinc 2 1, 3) := by decide +kernel
theorem dX5_take_47 : decode cX5_take 47 = .ok (.goto (-45), 3) := by decide +kernel
theorem dX5_take_50 : decode cX5_take 50 = .ok (.aload_n 0, 1) := by decide +kernel
theorem dX5_take_51 : decode cX5_take 51 = .ok (.aload_n 1, 1) := by decide +kernel
theorem dX5_take_52 : decode cX5_take 52 = .ok (.getfield 31, 3) := by decide +kernel
theorem dX5_take_55 : decode cX5_take 55 = .ok (.putfield 31, 3) := by decide +kernel
theorem dX5_take_58 : decode cX5_take 58 = .ok (.aload_n 0, 1) := by decide +kernel
theorem dX5_take_59 : decode cX5_take 59 = .ok (.aload_n 1, 1) := by decide +kernel
theorem dX5_take_60 : decode cX5_take 60 = .ok (.getfield 21, 3) := by decide +kernel
theorem dX5_take_63 : decode cX5_take 63 = .ok (.putfield 21, 3) := by decide +kernel
theorem dX5_take_66 : decode cX5_take 66 = .ok (.aload_n 0, 1) := by decide +kernel
theorem dX5_take_67 : decode cX5_take 67 = .ok (.aload_n 1, 1) := by decide +kernel
theorem dX5_take_68 : decode cX5_take 68 = .ok (.getfield 25, 3) := by decide +kernel
theorem dX5_take_71 : decode cX5_take 71 = .ok (.putfield 25, 3) := by decide +kernel
theorem dX5_take_74 : decode cX5_take 74 = .ok (.aload_n 0, 1) := by decide +kernel
theorem dX5_take_75 : decode cX5_take 75 = .ok (.aload_n 1, 1) := by decide +kernel
theorem dX5_take_76 : decode cX5_take 76 = .ok (.getfield 28, 3) := by decide +kernel
theorem dX5_take_79 : decode cX5_take 79 = .ok (.putfield 28, 3) := by decide +kernel
theorem dX5_take_82 : decode cX5_take 82 = .ok (.aload_n 0, 1) := by decide +kernel
theorem dX5_take_83 : decode cX5_take 83 = .ok (.aload_n 1, 1) := by decide +kernel
theorem dX5_take_84 : decode cX5_take 84 = .ok (.getfield 40, 3) := by decide +kernel
theorem dX5_take_87 : decode cX5_take 87 = .ok (.putfield 40, 3) := by decide +kernel
theorem dX5_take_90 : decode cX5_take 90 = .ok (.aload_n 0, 1) := by decide +kernel
theorem dX5_take_91 : decode cX5_take 91 = .ok (.aload_n 1, 1) := by decide +kernel
theorem dX5_take_92 : decode cX5_take 92 = .ok (.getfield 47, 3) := by decide +kernel
theorem dX5_take_95 : decode cX5_take 95 = .ok (.putfield 47, 3) := by decide +kernel
theorem dX5_take_98 : decode cX5_take 98 = .ok (.aload_n 0, 1) := by decide +kernel
theorem dX5_take_99 : decode cX5_take 99 = .ok (.aload_n 1, 1) := by decide +kernel
theorem dX5_take_100 : decode cX5_take 100 = .ok (.getfield 51, 3) := by decide +kernel
theorem dX5_take_103 : decode cX5_take 103 = .ok (.putfield 51, 3) := by decide +kernel
theorem dX5_take_106 : decode cX5_take 106 = .ok (.aload_n 0, 1) := by decide +kernel
theorem dX5_take_107 : decode cX5_take 107 = .ok (.aload_n 1, 1) := by decide +kernel
theorem dX5_take_108 : decode cX5_take 108 = .ok (.getfield 54, 3) := by decide +kernel
theorem dX5_take_111 : decode cX5_take 111 = .ok (.putfield 54, 3) := by decide +kernel
theorem dX5_take_114 : decode cX5_take 114 = .ok (.aload_n 0, 1) := by decide +kernel
theorem dX5_take_115 : decode cX5_take 115 = .ok (.aload_n 1, 1) := by decide +kernel
theorem dX5_take_116 : decode cX5_take 116 = .ok (.getfield 57, 3) := by decide +kernel
theorem dX5_take_119 : decode cX5_take 119 = .ok (.putfield 57, 3) := by decide +kernel
theorem dX5_take_122 : decode cX5_take 122 = .ok (.return_, 1) := by decide +kernel
theorem dX5_daysSince_0 : decode cX5_daysSince 0 = .ok (.iload_n 1, 1) := by decide +kernel
theorem dX5_daysSince_1 : decode cX5_daysSince 1 = .ok (.ifCond .lt 19, 3) := by decide +kernel
theorem dX5_daysSince_4 : decode cX5_daysSince 4 = .ok (.iload_n 1, 1) := by decide +kernel
theorem dX5_daysSince_5 : decode cX5_daysSince 5 = .ok (.bipush 8, 2) := by decide +kernel
theorem dX5_daysSince_7 : decode cX5_daysSince 7 = .ok (.if_icmp .ge 13, 3) := by decide +kernel
theorem dX5_daysSince_10 : decode cX5_daysSince 10 = .ok (.aload_n 0, 1) := by decide +kernel
theorem dX5_daysSince_11 : decode cX5_daysSince 11 = .ok (.getfield 18, 3) := by decide +kernel
theorem dX5_daysSince_14 : decode cX5_daysSince 14 = .ok (.iload_n 1, 1) := by decide +kernel
theorem dX5_daysSince_15 : decode cX5_daysSince 15 = .ok (.iaload, 1) := by decide +kernel
theorem dX5_daysSince_16 : decode cX5_daysSince 16 = .ok (.iconst (-1), 1) := by decide +kernel
theorem dX5_daysSince_17 : decode cX5_daysSince 17 = .ok (.if_icmp .ne 6, 3) := by decide +kernel
theorem dX5_daysSince_20 : decode cX5_daysSince 20 = .ok (.bipush 99, 2) := by decide +kernel
theorem dX5_daysSince_22 : decode cX5_daysSince 22 = .ok (.ireturn, 1) := by decide +kernel
theorem dX5_daysSince_23 : decode cX5_daysSince 23 = .ok (.bipush 99, 2) := by decide +kernel
theorem dX5_daysSince_25 : decode cX5_daysSince 25 = .ok (.aload_n 0, 1) := by decide +kernel
theorem dX5_daysSince_26 : decode cX5_daysSince 26 = .ok (.getfield 31, 3) := by decide +kernel
theorem dX5_daysSince_29 : decode cX5_daysSince 29 = .ok (.aload_n 0, 1) := by decide +kernel
theorem dX5_daysSince_30 : decode cX5_daysSince 30 = .ok (.getfield 18, 3) := by decide +kernel
theorem dX5_daysSince_33 : decode cX5_daysSince 33 = .ok (.iload_n 1, 1) := by decide +kernel
theorem dX5_daysSince_34 : decode cX5_daysSince 34 = .ok (.iaload, 1) := by decide +kernel
theorem dX5_daysSince_35 : decode cX5_daysSince 35 = .ok (.isub, 1) := by decide +kernel
theorem dX5_daysSince_36 : decode cX5_daysSince 36 = .ok (.invokestatic 60, 3) := by decide +kernel
theorem dX5_daysSince_39 : decode cX5_daysSince 39 = .ok (.ireturn, 1) := by decide +kernel
theorem dX5_remember_0 : decode cX5_remember 0 = .ok (.iload_n 1, 1) := by decide +kernel
theorem dX5_remember_1 : decode cX5_remember 1 = .ok (.ifCond .lt 49, 3) := by decide +kernel
theorem dX5_remember_4 : decode cX5_remember 4 = .ok (.iload_n 1, 1) := by decide +kernel
theorem dX5_remember_5 : decode cX5_remember 5 = .ok (.bipush 8, 2) := by decide +kernel
theorem dX5_remember_7 : decode cX5_remember 7 = .ok (.if_icmp .ge 43, 3) := by decide +kernel
theorem dX5_remember_10 : decode cX5_remember 10 = .ok (.aload_n 0, 1) := by decide +kernel
theorem dX5_remember_11 : decode cX5_remember 11 = .ok (.getfield 9, 3) := by decide +kernel
theorem dX5_remember_14 : decode cX5_remember 14 = .ok (.iload_n 1, 1) := by decide +kernel
theorem dX5_remember_15 : decode cX5_remember 15 = .ok (.sipush 9999, 3) := by decide +kernel
theorem dX5_remember_18 : decode cX5_remember 18 = .ok (.aload_n 0, 1) := by decide +kernel
theorem dX5_remember_19 : decode cX5_remember 19 = .ok (.getfield 9, 3) := by decide +kernel
theorem dX5_remember_22 : decode cX5_remember 22 = .ok (.iload_n 1, 1) := by decide +kernel
theorem dX5_remember_23 : decode cX5_remember 23 = .ok (.iaload, 1) := by decide +kernel
theorem dX5_remember_24 : decode cX5_remember 24 = .ok (.iload_n 2, 1) := by decide +kernel
theorem dX5_remember_25 : decode cX5_remember 25 = .ok (.iadd, 1) := by decide +kernel
theorem dX5_remember_26 : decode cX5_remember 26 = .ok (.invokestatic 60, 3) := by decide +kernel
theorem dX5_remember_29 : decode cX5_remember 29 = .ok (.iastore, 1) := by decide +kernel
theorem dX5_remember_30 : decode cX5_remember 30 = .ok (.aload_n 0, 1) := by decide +kernel
theorem dX5_remember_31 : decode cX5_remember 31 = .ok (.getfield 15, 3) := by decide +kernel
theorem dX5_remember_34 : decode cX5_remember 34 = .ok (.iload_n 1, 1) := by decide +kernel
theorem dX5_remember_35 : decode cX5_remember 35 = .ok (.dup2, 1) := by decide +kernel
theorem dX5_remember_36 : decode cX5_remember 36 = .ok (.iaload, 1) := by decide +kernel
theorem dX5_remember_37 : decode cX5_remember 37 = .ok (.iconst 1, 1) := by decide +kernel
theorem dX5_remember_38 : decode cX5_remember 38 = .ok (.iadd, 1) := by decide +kernel
theorem dX5_remember_39 : decode cX5_remember 39 = .ok (.iastore, 1) := by decide +kernel
theorem dX5_remember_40 : decode cX5_remember 40 = .ok (.aload_n 0, 1) := by decide +kernel
theorem dX5_remember_41 : decode cX5_remember 41 = .ok (.getfield 18, 3) := by decide +kernel
theorem dX5_remember_44 : decode cX5_remember 44 = .ok (.iload_n 1, 1) := by decide +kernel
theorem dX5_remember_45 : decode cX5_remember 45 = .ok (.aload_n 0, 1) := by decide +kernel
theorem dX5_remember_46 : decode cX5_remember 46 = .ok (.getfield 31, 3) := by decide +kernel
theorem dX5_remember_49 : decode cX5_remember 49 = .ok (.iastore, 1) := by decide +kernel
theorem dX5_remember_50 : decode cX5_remember 50 = .ok (.return_, 1) := by decide +kernel
theorem dX5_drag_0 : decode cX5_drag 0 = .ok (.iload_n 1, 1) := by decide +kernel
theorem dX5_drag_1 : decode cX5_drag 1 = .ok (.ifCond .lt 27, 3) := by decide +kernel
theorem dX5_drag_4 : decode cX5_drag 4 = .ok (.iload_n 1, 1) := by decide +kernel
theorem dX5_drag_5 : decode cX5_drag 5 = .ok (.bipush 8, 2) := by decide +kernel
theorem dX5_drag_7 : decode cX5_drag 7 = .ok (.if_icmp .ge 21, 3) := by decide +kernel
theorem dX5_drag_10 : decode cX5_drag 10 = .ok (.aload_n 0, 1) := by decide +kernel
theorem dX5_drag_11 : decode cX5_drag 11 = .ok (.getfield 9, 3) := by decide +kernel
theorem dX5_drag_14 : decode cX5_drag 14 = .ok (.iload_n 1, 1) := by decide +kernel
theorem dX5_drag_15 : decode cX5_drag 15 = .ok (.iconst 0, 1) := by decide +kernel
theorem dX5_drag_16 : decode cX5_drag 16 = .ok (.aload_n 0, 1) := by decide +kernel
theorem dX5_drag_17 : decode cX5_drag 17 = .ok (.getfield 9, 3) := by decide +kernel
theorem dX5_drag_20 : decode cX5_drag 20 = .ok (.iload_n 1, 1) := by decide +kernel
theorem dX5_drag_21 : decode cX5_drag 21 = .ok (.iaload, 1) := by decide +kernel
theorem dX5_drag_22 : decode cX5_drag 22 = .ok (.iconst 2, 1) := by decide +kernel
theorem dX5_drag_23 : decode cX5_drag 23 = .ok (.isub, 1) := by decide +kernel
theorem dX5_drag_24 : decode cX5_drag 24 = .ok (.invokestatic 66, 3) := by decide +kernel
theorem dX5_drag_27 : decode cX5_drag 27 = .ok (.iastore, 1) := by decide +kernel
theorem dX5_drag_28 : decode cX5_drag 28 = .ok (.return_, 1) := by decide +kernel
theorem dX5_leaveFor_0 : decode cX5_leaveFor 0 = .ok (.aload_n 0, 1) := by decide +kernel
theorem dX5_leaveFor_1 : decode cX5_leaveFor 1 = .ok (.iconst (-1), 1) := by decide +kernel
theorem dX5_leaveFor_2 : decode cX5_leaveFor 2 = .ok (.putfield 21, 3) := by decide +kernel
theorem dX5_leaveFor_5 : decode cX5_leaveFor 5 = .ok (.aload_n 0, 1) := by decide +kernel
theorem dX5_leaveFor_6 : decode cX5_leaveFor 6 = .ok (.iload_n 1, 1) := by decide +kernel
theorem dX5_leaveFor_7 : decode cX5_leaveFor 7 = .ok (.putfield 25, 3) := by decide +kernel
theorem dX5_leaveFor_10 : decode cX5_leaveFor 10 = .ok (.aload_n 0, 1) := by decide +kernel
theorem dX5_leaveFor_11 : decode cX5_leaveFor 11 = .ok (.aload_n 0, 1) := by decide +kernel
theorem dX5_leaveFor_12 : decode cX5_leaveFor 12 = .ok (.getfield 31, 3) := by decide +kernel
theorem dX5_leaveFor_15 : decode cX5_leaveFor 15 = .ok (.iload_n 2, 1) := by decide +kernel
theorem dX5_leaveFor_16 : decode cX5_leaveFor 16 = .ok (.iadd, 1) := by decide +kernel
theorem dX5_leaveFor_17 : decode cX5_leaveFor 17 = .ok (.putfield 28, 3) := by decide +kernel
theorem dX5_leaveFor_20 : decode cX5_leaveFor 20 = .ok (.return_, 1) := by decide +kernel
theorem dX5_lieIn_0 : decode cX5_lieIn 0 = .ok (.aload_n 0, 1) := by decide +kernel
theorem dX5_lieIn_1 : decode cX5_lieIn 1 = .ok (.iload_n 1, 1) := by decide +kernel
theorem dX5_lieIn_2 : decode cX5_lieIn 2 = .ok (.putfield 21, 3) := by decide +kernel
theorem dX5_lieIn_5 : decode cX5_lieIn 5 = .ok (.aload_n 0, 1) := by decide +kernel
theorem dX5_lieIn_6 : decode cX5_lieIn 6 = .ok (.iconst (-1), 1) := by decide +kernel
theorem dX5_lieIn_7 : decode cX5_lieIn 7 = .ok (.putfield 25, 3) := by decide +kernel
theorem dX5_lieIn_10 : decode cX5_lieIn 10 = .ok (.aload_n 0, 1) := by decide +kernel
theorem dX5_lieIn_11 : decode cX5_lieIn 11 = .ok (.iconst (-1), 1) := by decide +kernel
theorem dX5_lieIn_12 : decode cX5_lieIn 12 = .ok (.putfield 28, 3) := by decide +kernel
theorem dX5_lieIn_15 : decode cX5_lieIn 15 = .ok (.return_, 1) := by decide +kernel
theorem dX5_draw_0 : decode cX5_draw 0 = .ok (.aload_n 0, 1) := by decide +kernel
theorem dX5_draw_1 : decode cX5_draw 1 = .ok (.aload_n 0, 1) := by decide +kernel
theorem dX5_draw_2 : decode cX5_draw 2 = .ok (.getfield 47, 3) := by decide +kernel
theorem dX5_draw_5 : decode cX5_draw 5 = .ok (.ldc2_w 69, 3) := by decide +kernel
theorem dX5_draw_8 : decode cX5_draw 8 = .ok (.lmul, 1) := by decide +kernel
theorem dX5_draw_9 : decode cX5_draw 9 = .ok (.ldc2_w 71, 3) := by decide +kernel
theorem dX5_draw_12 : decode cX5_draw 12 = .ok (.ladd, 1) := by decide +kernel
theorem dX5_draw_13 : decode cX5_draw 13 = .ok (.ldc2_w 73, 3) := by decide +kernel
theorem dX5_draw_16 : decode cX5_draw 16 = .ok (.land, 1) := by decide +kernel
theorem dX5_draw_17 : decode cX5_draw 17 = .ok (.putfield 47, 3) := by decide +kernel
theorem dX5_draw_20 : decode cX5_draw 20 = .ok (.aload_n 0, 1) := by decide +kernel
theorem dX5_draw_21 : decode cX5_draw 21 = .ok (.getfield 47, 3) := by decide +kernel
theorem dX5_draw_24 : decode cX5_draw 24 = .ok (.ldc2_w 75, 3) := by decide +kernel
theorem dX5_draw_27 : decode cX5_draw 27 = .ok (.ldiv, 1) := by decide +kernel
theorem dX5_draw_28 : decode cX5_draw 28 = .ok (.l2i, 1) := by decide +kernel
theorem dX5_draw_29 : decode cX5_draw 29 = .ok (.ireturn, 1) := by decide +kernel
theorem dX6_init_0 : decode cX6_init 0 = .ok (.aload_n 0, 1) := by decide +kernel
theorem dX6_init_1 : decode cX6_init 1 = .ok (.invokespecial 3, 3) := by decide +kernel
theorem dX6_init_4 : decode cX6_init 4 = .ok (.aload_n 0, 1) := by decide +kernel
theorem dX6_init_5 : decode cX6_init 5 = .ok (.bipush 24, 2) := by decide +kernel
theorem dX6_init_7 : decode cX6_init 7 = .ok (.newarray .int, 2) := by decide +kernel
theorem dX6_init_9 : decode cX6_init 9 = .ok (.putfield 9, 3) := by decide +kernel
theorem dX6_init_12 : decode cX6_init 12 = .ok (.aload_n 0, 1) := by decide +kernel
theorem dX6_init_13 : decode cX6_init 13 = .ok (.bipush 24, 2) := by decide +kernel
theorem dX6_init_15 : decode cX6_init 15 = .ok (.newarray .int, 2) := by decide +kernel
theorem dX6_init_17 : decode cX6_init 17 = .ok (.putfield 15, 3) := by decide +kernel
theorem dX6_init_20 : decode cX6_init 20 = .ok (.aload_n 0, 1) := by decide +kernel
theorem dX6_init_21 : decode cX6_init 21 = .ok (.bipush 24, 2) := by decide +kernel
theorem dX6_init_23 : decode cX6_init 23 = .ok (.newarray .boolean, 2) := by decide +kernel
theorem dX6_init_25 : decode cX6_init 25 = .ok (.putfield 18, 3) := by decide +kernel
theorem dX6_init_28 : decode cX6_init 28 = .ok (.aload_n 0, 1) := by decide +kernel
theorem dX6_init_29 : decode cX6_init 29 = .ok (.bipush 24, 2) := by decide +kernel
theorem dX6_init_31 : decode cX6_init 31 = .ok (.newarray .int, 2) := by decide +kernel
theorem dX6_init_33 : decode cX6_init 33 = .ok (.putfield 22, 3) := by decide +kernel
theorem dX6_init_36 : decode cX6_init 36 = .ok (.aload_n 0, 1) := by decide +kernel
theorem dX6_init_37 : decode cX6_init 37 = .ok (.bipush 24, 2) := by decide +kernel
theorem dX6_init_39 : decode cX6_init 39 = .ok (.newarray .boolean, 2) := by decide +kernel
theorem dX6_init_41 : decode cX6_init 41 = .ok (.putfield 25, 3) := by decide +kernel
theorem dX6_init_44 : decode cX6_init 44 = .ok (.aload_n 0, 1) := by decide +kernel
theorem dX6_init_45 : decode cX6_init 45 = .ok (.aload_n 1, 1) := by decide +kernel
theorem dX6_init_46 : decode cX6_init 46 = .ok (.putfield 28, 3) := by decide +kernel
theorem dX6_init_49 : decode cX6_init 49 = .ok (.aload_n 0, 1) := by decide +kernel
theorem dX6_init_50 : decode cX6_init 50 = .ok (.aload_n 2, 1) := by decide +kernel
theorem dX6_init_51 : decode cX6_init 51 = .ok (.putfield 32, 3) := by decide +kernel
theorem dX6_init_54 : decode cX6_init 54 = .ok (.aload_n 0, 1) := by decide +kernel
theorem dX6_init_55 : decode cX6_init 55 = .ok (.iconst (-1), 1) := by decide +kernel
theorem dX6_init_56 : decode cX6_init 56 = .ok (.putfield 36, 3) := by decide +kernel
theorem dX6_init_59 : decode cX6_init 59 = .ok (.return_, 1) := by decide +kernel
theorem dX6_clear_0 : decode cX6_clear 0 = .ok (.aload_n 0, 1) := by decide +kernel
theorem dX6_clear_1 : decode cX6_clear 1 = .ok (.iconst 0, 1) := by decide +kernel
theorem dX6_clear_2 : decode cX6_clear 2 = .ok (.putfield 40, 3) := by decide +kernel
theorem dX6_clear_5 : decode cX6_clear 5 = .ok (.aload_n 0, 1) := by decide +kernel
theorem dX6_clear_6 : decode cX6_clear 6 = .ok (.iconst (-1), 1) := by decide +kernel
theorem dX6_clear_7 : decode cX6_clear 7 = .ok (.putfield 36, 3) := by decide +kernel
theorem dX6_clear_10 : decode cX6_clear 10 = .ok (.return_, 1) := by decide +kernel
theorem dX6_knownBy_0 : decode cX6_knownBy 0 = .ok (.aload_n 0, 1) := by decide +kernel
theorem dX6_knownBy_1 : decode cX6_knownBy 1 = .ok (.getfield 36, 3) := by decide +kernel
theorem dX6_knownBy_4 : decode cX6_knownBy 4 = .ok (.iconst (-1), 1) := by decide +kernel
theorem dX6_knownBy_5 : decode cX6_knownBy 5 = .ok (.if_icmp .ne 10, 3) := by decide +kernel
theorem dX6_knownBy_8 : decode cX6_knownBy 8 = .ok (.aload_n 0, 1) := by decide +kernel
theorem dX6_knownBy_9 : decode cX6_knownBy 9 = .ok (.getfield 40, 3) := by decide +kernel
theorem dX6_knownBy_12 : decode cX6_knownBy 12 = .ok (.goto 14, 3) := by decide +kernel
theorem dX6_knownBy_15 : decode cX6_knownBy 15 = .ok (.aload_n 0, 1) := by decide +kernel
theorem dX6_knownBy_16 : decode cX6_knownBy 16 = .ok (.getfield 36, 3) := by decide +kernel
theorem dX6_knownBy_19 : decode cX6_knownBy 19 = .ok (.aload_n 0, 1) := by decide +kernel
theorem dX6_knownBy_20 : decode cX6_knownBy 20 = .ok (.getfield 40, 3) := by decide +kernel
theorem dX6_knownBy_23 : decode cX6_knownBy 23 = .ok (.invokestatic 43, 3) := by decide +kernel
theorem dX6_knownBy_26 : decode cX6_knownBy 26 = .ok (.ireturn, 1) := by decide +kernel
theorem dX6_addSight_0 : decode cX6_addSight 0 = .ok (.aload_n 0, 1) := by decide +kernel
theorem dX6_addSight_1 : decode cX6_addSight 1 = .ok (.getfield 40, 3) := by decide +kernel
theorem dX6_addSight_4 : decode cX6_addSight 4 = .ok (.bipush 24, 2) := by decide +kernel
theorem dX6_addSight_6 : decode cX6_addSight 6 = .ok (.if_icmp .lt 5, 3) := by decide +kernel
theorem dX6_addSight_9 : decode cX6_addSight 9 = .ok (.iconst (-1), 1) := by decide +kernel
theorem dX6_addSight_10 : decode cX6_addSight 10 = .ok (.ireturn, 1) := by decide +kernel
theorem dX6_addSight_11 : decode cX6_addSight 11 = .ok (.aload_n 0, 1) := by decide +kernel
theorem dX6_addSight_12 : decode cX6_addSight 12 = .ok (.getfield 9, 3) := by decide +kernel
theorem dX6_addSight_15 : decode cX6_addSight 15 = .ok (.aload_n 0, 1) := by decide +kernel
theorem dX6_addSight_16 : decode cX6_addSight 16 = .ok (.getfield 40, 3) := by decide +kernel
theorem dX6_addSight_19 : decode cX6_addSight 19 = .ok (.iload_n 1, 1) := by decide +kernel
theorem dX6_addSight_20 : decode cX6_addSight 20 = .ok (.iastore, 1) := by decide +kernel
theorem dX6_addSight_21 : decode cX6_addSight 21 = .ok (.aload_n 0, 1) := by decide +kernel
theorem dX6_addSight_22 : decode cX6_addSight 22 = .ok (.getfield 15, 3) := by decide +kernel
theorem dX6_addSight_25 : decode cX6_addSight 25 = .ok (.aload_n 0, 1) := by decide +kernel
theorem dX6_addSight_26 : decode cX6_addSight 26 = .ok (.getfield 40, 3) := by decide +kernel
theorem dX6_addSight_29 : decode cX6_addSight 29 = .ok (.iload_n 2, 1) := by decide +kernel
theorem dX6_addSight_30 : decode cX6_addSight 30 = .ok (.iastore, 1) := by decide +kernel
theorem dX6_addSight_31 : decode cX6_addSight 31 = .ok (.aload_n 0, 1) := by decide +kernel
theorem dX6_addSight_32 : decode cX6_addSight 32 = .ok (.getfield 18, 3) := by decide +kernel
theorem dX6_addSight_35 : decode cX6_addSight 35 = .ok (.aload_n 0, 1) := by decide +kernel
theorem dX6_addSight_36 : decode cX6_addSight 36 = .ok (.getfield 40, 3) := by decide +kernel
theorem dX6_addSight_39 : decode cX6_addSight 39 = .ok (.iload_n 3, 1) := by decide +kernel
theorem dX6_addSight_40 : decode cX6_addSight 40 = .ok (.bastore, 1) := by decide +kernel
theorem dX6_addSight_41 : decode cX6_addSight 41 = .ok (.aload_n 0, 1) := by decide +kernel
theorem dX6_addSight_42 : decode cX6_addSight 42 = .ok (.getfield 22, 3) := by decide +kernel
theorem dX6_addSight_45 : decode cX6_addSight 45 = .ok (.aload_n 0, 1) := by decide +kernel
theorem dX6_addSight_46 : decode cX6_addSight 46 = .ok (.getfield 40, 3) := by decide +kernel
theorem dX6_addSight_49 : decode cX6_addSight 49 = .ok (.iconst (-1), 1) := by decide +kernel
theorem dX6_addSight_50 : decode cX6_addSight 50 = .ok (.iastore, 1) := by decide +kernel
theorem dX6_addSight_51 : decode cX6_addSight 51 = .ok (.aload_n 0, 1) := by decide +kernel
theorem dX6_addSight_52 : decode cX6_addSight 52 = .ok (.dup, 1) := by decide +kernel
theorem dX6_addSight_53 : decode cX6_addSight 53 = .ok (.getfield 40, 3) := by decide +kernel
theorem dX6_addSight_56 : decode cX6_addSight 56 = .ok (.iconst 1, 1) := by decide +kernel
theorem dX6_addSight_57 : decode cX6_addSight 57 = .ok (.iadd, 1) := by decide +kernel
theorem dX6_addSight_58 : decode cX6_addSight 58 = .ok (.putfield 40, 3) := by decide +kernel
theorem dX6_addSight_61 : decode cX6_addSight 61 = .ok (.aload_n 0, 1) := by decide +kernel
theorem dX6_addSight_62 : decode cX6_addSight 62 = .ok (.getfield 40, 3) := by decide +kernel
theorem dX6_addSight_65 : decode cX6_addSight 65 = .ok (.iconst 1, 1) := by decide +kernel
theorem dX6_addSight_66 : decode cX6_addSight 66 = .ok (.isub, 1) := by decide +kernel
theorem dX6_addSight_67 : decode cX6_addSight 67 = .ok (.ireturn, 1) := by decide +kernel
set_option maxRecDepth 20000 in
theorem ggX6_addStrike_X6_addSight : GoodIn wsX6_addStrike wsX6_addSight := goodIn_r _ [6, 7, 8, 9, 10, 1, 11, 12, 13, 14, 15, 16, 17, 18, 19] rfl (by decide +kernel)
set_option maxRecDepth 20000 in
theorem gX6_addStrike_X6_addSight : GoodIn wsX6_addStrike (wsV RX6 49 RX6 yX6_addSight wsX6_addSight) := goodIn_app (goodIn_r _ [2, 3, 4, 5] rfl (by decide +kernel)) ggX6_addStrike_X6_addSight
theorem dX6_addStrike_0 : decode cX6_addStrike 0 = .ok (.aload_n 0, 1) := by decide +kernel
theorem dX6_addStrike_1 : decode cX6_addStrike 1 = .ok (.iconst 0, 1) := by decide +kernel
theorem dX6_addStrike_2 : decode cX6_addStrike 2 = .ok (.iconst 0, 1) := by decide +kernel
theorem dX6_addStrike_3 : decode cX6_addStrike 3 = .ok (.iconst 0, 1) := by decide +kernel
theorem dX6_addStrike_4 : decode cX6_addStrike 4 = .ok (.invokevirtual 49, 3) := by decide +kernel
theorem dX6_addStrike_7 : decode cX6_addStrike 7 = .ok (.istore_n 2, 1) := by decide +kernel
theorem dX6_addStrike_8 : decode cX6_addStrike 8 = .ok (.iload_n 2, 1) := by decide +kernel
theorem dX6_addStrike_9 : decode cX6_addStrike 9 = .ok (.ifCond .lt 16, 3) := by decide +kernel
theorem dX6_addStrike_12 : decode cX6_addStrike 12 = .ok (.iload_n 2, 1) := by decide +kernel
theorem dX6_addStrike_13 : decode cX6_addStrike 13 = .ok (.bipush 24, 2) := by decide +kernel
theorem dX6_addStrike_15 : decode cX6_addStrike 15 = .ok (.if_icmp .ge 10, 3) := by decide +kernel
theorem dX6_addStrike_18 : decode cX6_addStrike 18 = .ok (.aload_n 0, 1) := by decide +kernel
theorem dX6_addStrike_19 : decode cX6_addStrike 19 = .ok (.getfield 22, 3) := by decide +kernel
theorem dX6_addStrike_22 : decode cX6_addStrike 22 = .ok (.iload_n 2, 1) := by decide +kernel
theorem dX6_addStrike_23 : decode cX6_addStrike 23 = .ok (.iload_n 1, 1) := by decide +kernel
theorem dX6_addStrike_24 : decode cX6_addStrike 24 = .ok (.iastore, 1) := by decide +kernel
theorem dX6_addStrike_25 : decode cX6_addStrike 25 = .ok (.iload_n 2, 1) := by decide +kernel
theorem dX6_addStrike_26 : decode cX6_addStrike 26 = .ok (.ireturn, 1) := by decide +kernel
set_option maxRecDepth 20000 in
theorem ggX6_strikeOut_X6_knownBy : GoodIn wsX6_strikeOut wsX6_knownBy := goodIn_r _ [11, 12, 13, 1, 2, 3, 4, 14, 15, 16, 17, 18, 19, 20, 21, 22] rfl (by decide +kernel)
set_option maxRecDepth 20000 in
theorem gX6_strikeOut_X6_knownBy : GoodIn wsX6_strikeOut (wsV RX6 53 RX6 yX6_knownBy wsX6_knownBy) := goodIn_app (goodIn_r _ [7, 8, 9, 10] rfl (by decide +kernel)) ggX6_strikeOut_X6_knownBy
theorem dX6_strikeOut_0 : decode cX6_strikeOut 0 = .ok (.aload_n 0, 1) := by decide +kernel
theorem dX6_strikeOut_1 : decode cX6_strikeOut 1 = .ok (.invokevirtual 53, 3) := by decide +kernel
theorem dX6_strikeOut_4 : decode cX6_strikeOut 4 = .ok (.bipush 24, 2) := by decide +kernel
theorem dX6_strikeOut_6 : decode cX6_strikeOut 6 = .ok (.invokestatic 43, 3) := by decide +kernel
theorem dX6_strikeOut_9 : decode cX6_strikeOut 9 = .ok (.istore_n 1, 1) := by decide +kernel
theorem dX6_strikeOut_10 : decode cX6_strikeOut 10 = .ok (.iconst 0, 1) := by decide +kernel
theorem dX6_strikeOut_11 : decode cX6_strikeOut 11 = .ok (.istore_n 2, 1) := by decide +kernel
theorem dX6_strikeOut_12 : decode cX6_strikeOut 12 = .ok (.iload_n 2, 1) := by decide +kernel
theorem dX6_strikeOut_13 : decode cX6_strikeOut 13 = .ok (.iload_n 1, 1) := by decide +kernel
theorem dX6_strikeOut_14 : decode cX6_strikeOut 14 = .ok (.if_icmp .ge 16, 3) := by decide +kernel
theorem dX6_strikeOut_17 : decode cX6_strikeOut 17 = .ok (.aload_n 0, 1) := by decide +kernel
theorem dX6_strikeOut_18 : decode cX6_strikeOut 18 = .ok (.getfield 25, 3) := by decide +kernel
theorem dX6_strikeOut_21 : decode cX6_strikeOut 21 = .ok (.iload_n 2, 1) := by decide +kernel
theorem dX6_strikeOut_22 : decode cX6_strikeOut 22 = .ok (.iconst 1, 1) := by decide +kernel
theorem dX6_strikeOut_23 : decode cX6_strikeOut 23 = .ok (.bastore, 1) := by decide +kernel
theorem dX6_strikeOut_24 : decode cX6_strikeOut 24 = .ok (.iinc 2 1, 3) := by decide +kernel
theorem dX6_strikeOut_27 : decode cX6_strikeOut 27 = .ok (.goto (-15), 3) := by decide +kernel
theorem dX6_strikeOut_30 : decode cX6_strikeOut 30 = .ok (.iload_n 1, 1) := by decide +kernel
theorem dX6_strikeOut_31 : decode cX6_strikeOut 31 = .ok (.iconst 1, 1) := by decide +kernel
theorem dX6_strikeOut_32 : decode cX6_strikeOut 32 = .ok (.isub, 1) := by decide +kernel
theorem dX6_strikeOut_33 : decode cX6_strikeOut 33 = .ok (.istore_n 2, 1) := by decide +kernel
theorem dX6_strikeOut_34 : decode cX6_strikeOut 34 = .ok (.iload_n 2, 1) := by decide +kernel
theorem dX6_strikeOut_35 : decode cX6_strikeOut 35 = .ok (.ifCond .lt 41, 3) := by decide +kernel
theorem dX6_strikeOut_38 : decode cX6_strikeOut 38 = .ok (.aload_n 0, 1) := by decide +kernel
theorem dX6_strikeOut_39 : decode cX6_strikeOut 39 = .ok (.getfield 22, 3) := by decide +kernel
theorem dX6_strikeOut_42 : decode cX6_strikeOut 42 = .ok (.iload_n 2, 1) := by decide +kernel
theorem dX6_strikeOut_43 : decode cX6_strikeOut 43 = .ok (.iaload, 1) := by decide +kernel
theorem dX6_strikeOut_44 : decode cX6_strikeOut 44 = .ok (.istore_n 3, 1) := by decide +kernel
theorem dX6_strikeOut_45 : decode cX6_strikeOut 45 = .ok (.aload_n 0, 1) := by decide +kernel
theorem dX6_strikeOut_46 : decode cX6_strikeOut 46 = .ok (.getfield 25, 3) := by decide +kernel
theorem dX6_strikeOut_49 : decode cX6_strikeOut 49 = .ok (.iload_n 2, 1) := by decide +kernel
theorem dX6_strikeOut_50 : decode cX6_strikeOut 50 = .ok (.baload, 1) := by decide +kernel
theorem dX6_strikeOut_51 : decode cX6_strikeOut 51 = .ok (.ifCond .eq 19, 3) := by decide +kernel
theorem dX6_strikeOut_54 : decode cX6_strikeOut 54 = .ok (.iload_n 3, 1) := by decide +kernel
theorem dX6_strikeOut_55 : decode cX6_strikeOut 55 = .ok (.ifCond .lt 15, 3) := by decide +kernel
theorem dX6_strikeOut_58 : decode cX6_strikeOut 58 = .ok (.iload_n 3, 1) := by decide +kernel
theorem dX6_strikeOut_59 : decode cX6_strikeOut 59 = .ok (.iload_n 2, 1) := by decide +kernel
theorem dX6_strikeOut_60 : decode cX6_strikeOut 60 = .ok (.if_icmp .ge 10, 3) := by decide +kernel
theorem dX6_strikeOut_63 : decode cX6_strikeOut 63 = .ok (.aload_n 0, 1) := by decide +kernel
theorem dX6_strikeOut_64 : decode cX6_strikeOut 64 = .ok (.getfield 25, 3) := by decide +kernel
theorem dX6_strikeOut_67 : decode cX6_strikeOut 67 = .ok (.iload_n 3, 1) := by decide +kernel
theorem dX6_strikeOut_68 : decode cX6_strikeOut 68 = .ok (.iconst 0, 1) := by decide +kernel
theorem dX6_strikeOut_69 : decode cX6_strikeOut 69 = .ok (.bastore, 1) := by decide +kernel
theorem dX6_strikeOut_70 : decode cX6_strikeOut 70 = .ok (.iinc 2 (-1), 3) := by decide +kernel
theorem dX6_strikeOut_73 : decode cX6_strikeOut 73 = .ok (.goto (-39), 3) := by decide +kernel
theorem dX6_strikeOut_76 : decode cX6_strikeOut 76 = .ok (.return_, 1) := by decide +kernel
set_option maxRecDepth 20000 in
theorem ggX6_joysOf_X6_strikeOut : GoodIn wsX6_joysOf wsX6_strikeOut := goodIn_r _ [5, 6, 7, 8, 9, 10, 11, 12, 13, 14, 4, 15, 16, 17, 100, 101, 102, 103, 104, 105, 106, 107, 108] rfl (by decide +kernel)
set_option maxRecDepth 20000 in
theorem gX6_joysOf_X6_strikeOut : GoodIn wsX6_joysOf (wsV RX6 57 RX6 yX6_strikeOut wsX6_strikeOut) := goodIn_app (goodIn_r _ [1, 2, 3, 4] rfl (by decide +kernel)) ggX6_joysOf_X6_strikeOut
set_option maxRecDepth 20000 in
theorem ggX6_joysOf_X6_agrees : GoodIn wsX6_joysOf wsX6_agrees := goodIn_r _ [21, 6, 7, 8, 9, 10, 11, 22, 23, 24, 25, 12, 13, 14, 4, 15, 16, 17, 26, 27, 28, 29, 30, 31, 32, 33, 34, 35, 36, 37, 38, 39, 40, 41, 42, 43, 44, 45, 46, 47, 48, 49, 50, 51, 52, 53, 54, 55, 56, 57, 58, 59, 60, 61, 62, 63, 64, 65, 66, 67, 68, 69, 70, 71, 72, 73, 74, 75, 76, 77, 78, 79, 80, 81, 82, 83, 84, 85, 86, 87, 88, 89, 90, 91, 92, 93, 94, 95, 96, 97, 98, 99, 100, 101, 102, 103, 104, 105, 106, 107, 108, 109, 110, 111, 112, 113, 114, 115, 116, 117, 118, 119, 120, 121, 122, 123, 124, 125, 126, 127, 128, 129, 130, 131, 132, 133, 134, 135, 136, 137, 138, 139, 140, 141, 142] rfl (by decide +kernel)
set_option maxRecDepth 20000 in
theorem gX6_joysOf_X6_agrees : GoodIn wsX6_joysOf (wsV RX6 60 RX6 yX6_agrees wsX6_agrees) := goodIn_app (goodIn_r _ [18, 19, 20, 4] rfl (by decide +kernel)) ggX6_joysOf_X6_agrees
theorem dX6_joysOf_0 : decode cX6_joysOf 0 = .ok (.aload_n 0, 1) := by decide +kernel
theorem dX6_joysOf_1 : decode cX6_joysOf 1 = .ok (.invokevirtual 57, 3) := by decide +kernel
theorem dX6_joysOf_4 : decode cX6_joysOf 4 = .ok (.iconst 0, 1) := by decide +kernel
theorem dX6_joysOf_5 : decode cX6_joysOf 5 = .ok (.istore_n 2, 1) := by decide +kernel
theorem dX6_joysOf_6 : decode cX6_joysOf 6 = .ok (.iconst 0, 1) := by decide +kernel
theorem dX6_joysOf_7 : decode cX6_joysOf 7 = .ok (.istore_n 3, 1) := by decide +kernel
theorem dX6_joysOf_8 : decode cX6_joysOf 8 = .ok (.iload_n 3, 1) := by decide +kernel
theorem dX6_joysOf_9 : decode cX6_joysOf 9 = .ok (.bipush 9, 2) := by decide +kernel
theorem dX6_joysOf_11 : decode cX6_joysOf 11 = .ok (.if_icmp .gt 24, 3) := by decide +kernel
theorem dX6_joysOf_14 : decode cX6_joysOf 14 = .ok (.aload_n 0, 1) := by decide +kernel
theorem dX6_joysOf_15 : decode cX6_joysOf 15 = .ok (.iload_n 1, 1) := by decide +kernel
theorem dX6_joysOf_16 : decode cX6_joysOf 16 = .ok (.iload_n 3, 1) := by decide +kernel
theorem dX6_joysOf_17 : decode cX6_joysOf 17 = .ok (.invokevirtual 60, 3) := by decide +kernel
theorem dX6_joysOf_20 : decode cX6_joysOf 20 = .ok (.ifCond .eq 9, 3) := by decide +kernel
theorem dX6_joysOf_23 : decode cX6_joysOf 23 = .ok (.iload_n 2, 1) := by decide +kernel
theorem dX6_joysOf_24 : decode cX6_joysOf 24 = .ok (.iconst 1, 1) := by decide +kernel
theorem dX6_joysOf_25 : decode cX6_joysOf 25 = .ok (.iload_n 3, 1) := by decide +kernel
theorem dX6_joysOf_26 : decode cX6_joysOf 26 = .ok (.ishl, 1) := by decide +kernel
theorem dX6_joysOf_27 : decode cX6_joysOf 27 = .ok (.ior, 1) := by decide +kernel
theorem dX6_joysOf_28 : decode cX6_joysOf 28 = .ok (.istore_n 2, 1) := by decide +kernel
theorem dX6_joysOf_29 : decode cX6_joysOf 29 = .ok (.iinc 3 1, 3) := by decide +kernel
theorem dX6_joysOf_32 : decode cX6_joysOf 32 = .ok (.goto (-24), 3) := by decide +kernel
theorem dX6_joysOf_35 : decode cX6_joysOf 35 = .ok (.iload_n 2, 1) := by decide +kernel
theorem dX6_joysOf_36 : decode cX6_joysOf 36 = .ok (.ireturn, 1) := by decide +kernel
set_option maxRecDepth 20000 in
theorem ggX6_agrees_X6_knownBy : GoodIn wsX6_agrees wsX6_knownBy := goodIn_r _ [15, 16, 17, 1, 2, 3, 4, 92, 93, 94, 95, 96, 97, 98, 99, 100] rfl (by decide +kernel)
set_option maxRecDepth 20000 in
theorem gX6_agrees_X6_knownBy : GoodIn wsX6_agrees (wsV RX6 53 RX6 yX6_knownBy wsX6_knownBy) := goodIn_app (goodIn_r _ [11, 12, 13, 14] rfl (by decide +kernel)) ggX6_agrees_X6_knownBy
set_option maxRecDepth 20000 in
theorem ggX6_agrees_X3_seesFromText : GoodIn wsX6_agrees wsX3_seesFromText := goodIn_r _ [22, 23, 24, 25, 26, 27, 28, 29, 30, 31, 32, 33, 34, 35, 36, 37, 2, 3, 4, 38, 39, 40, 41, 42, 43, 44, 45, 46, 47, 48, 49, 50, 51, 52, 53, 54, 55, 56, 57, 58, 59, 60, 61, 62, 63, 64, 65, 66, 67, 68, 69, 70, 71, 72, 73, 74, 75, 76, 77, 78, 79, 80, 81, 82, 83, 84, 85, 86, 87, 88, 89, 90, 91, 101, 102, 103, 104, 105, 106, 107, 108, 109, 110, 111, 112, 113, 114, 115, 116, 117, 118, 119, 120, 121, 122, 123, 124, 125, 126, 127, 128, 129, 130, 131, 132, 133, 134] rfl (by decide +kernel)
set_option maxRecDepth 20000 in
theorem gX6_agrees_X3_seesFromText : GoodIn wsX6_agrees (wsV RX6 64 RX3 yX3_seesFromText wsX3_seesFromText) := goodIn_app (goodIn_r _ [18, 19, 20, 21] rfl (by decide +kernel)) ggX6_agrees_X3_seesFromText
theorem dX6_agrees_0 : decode cX6_agrees 0 = .ok (.aload_n 0, 1) := by decide +kernel
theorem dX6_agrees_1 : decode cX6_agrees 1 = .ok (.invokevirtual 53, 3) := by decide +kernel
theorem dX6_agrees_4 : decode cX6_agrees 4 = .ok (.bipush 24, 2) := by decide +kernel
theorem dX6_agrees_6 : decode cX6_agrees 6 = .ok (.invokestatic 43, 3) := by decide +kernel
theorem dX6_agrees_9 : decode cX6_agrees 9 = .ok (.istore_n 3, 1) := by decide +kernel
theorem dX6_agrees_10 : decode cX6_agrees 10 = .ok (.iconst 0, 1) := by decide +kernel
theorem dX6_agrees_11 : decode cX6_agrees 11 = .ok (.istore 4, 2) := by decide +kernel
theorem dX6_agrees_13 : decode cX6_agrees 13 = .ok (.iload 4, 2) := by decide +kernel
theorem dX6_agrees_15 : decode cX6_agrees 15 = .ok (.iload_n 3, 1) := by decide +kernel
theorem dX6_agrees_16 : decode cX6_agrees 16 = .ok (.if_icmp .ge 65, 3) := by decide +kernel
theorem dX6_agrees_19 : decode cX6_agrees 19 = .ok (.aload_n 0, 1) := by decide +kernel
theorem dX6_agrees_20 : decode cX6_agrees 20 = .ok (.getfield 25, 3) := by decide +kernel
theorem dX6_agrees_23 : decode cX6_agrees 23 = .ok (.iload 4, 2) := by decide +kernel
theorem dX6_agrees_25 : decode cX6_agrees 25 = .ok (.baload, 1) := by decide +kernel
theorem dX6_agrees_26 : decode cX6_agrees 26 = .ok (.ifCond .eq 49, 3) := by decide +kernel
theorem dX6_agrees_29 : decode cX6_agrees 29 = .ok (.aload_n 0, 1) := by decide +kernel
theorem dX6_agrees_30 : decode cX6_agrees 30 = .ok (.getfield 22, 3) := by decide +kernel
theorem dX6_agrees_33 : decode cX6_agrees 33 = .ok (.iload 4, 2) := by decide +kernel
theorem dX6_agrees_35 : decode cX6_agrees 35 = .ok (.iaload, 1) := by decide +kernel
theorem dX6_agrees_36 : decode cX6_agrees 36 = .ok (.iconst (-1), 1) := by decide +kernel
theorem dX6_agrees_37 : decode cX6_agrees 37 = .ok (.if_icmp .ne 38, 3) := by decide +kernel
theorem dX6_agrees_40 : decode cX6_agrees 40 = .ok (.aload_n 0, 1) := by decide +kernel
theorem dX6_agrees_41 : decode cX6_agrees 41 = .ok (.getfield 32, 3) := by decide +kernel
theorem dX6_agrees_44 : decode cX6_agrees 44 = .ok (.aload_n 0, 1) := by decide +kernel
theorem dX6_agrees_45 : decode cX6_agrees 45 = .ok (.getfield 9, 3) := by decide +kernel
theorem dX6_agrees_48 : decode cX6_agrees 48 = .ok (.iload 4, 2) := by decide +kernel
theorem dX6_agrees_50 : decode cX6_agrees 50 = .ok (.iaload, 1) := by decide +kernel
theorem dX6_agrees_51 : decode cX6_agrees 51 = .ok (.aload_n 0, 1) := by decide +kernel
theorem dX6_agrees_52 : decode cX6_agrees 52 = .ok (.getfield 15, 3) := by decide +kernel
theorem dX6_agrees_55 : decode cX6_agrees 55 = .ok (.iload 4, 2) := by decide +kernel
theorem dX6_agrees_57 : decode cX6_agrees 57 = .ok (.iaload, 1) := by decide +kernel
theorem dX6_agrees_58 : decode cX6_agrees 58 = .ok (.iload_n 1, 1) := by decide +kernel
theorem dX6_agrees_59 : decode cX6_agrees 59 = .ok (.iload_n 2, 1) := by decide +kernel
theorem dX6_agrees_60 : decode cX6_agrees 60 = .ok (.invokevirtual 64, 3) := by decide +kernel
theorem dX6_agrees_63 : decode cX6_agrees 63 = .ok (.aload_n 0, 1) := by decide +kernel
theorem dX6_agrees_64 : decode cX6_agrees 64 = .ok (.getfield 18, 3) := by decide +kernel
theorem dX6_agrees_67 : decode cX6_agrees 67 = .ok (.iload 4, 2) := by decide +kernel
theorem dX6_agrees_69 : decode cX6_agrees 69 = .ok (.baload, 1) := by decide +kernel
theorem dX6_agrees_70 : decode cX6_agrees 70 = .ok (.if_icmp .eq 5, 3) := by decide +kernel
theorem dX6_agrees_73 : decode cX6_agrees 73 = .ok (.iconst 0, 1) := by decide +kernel
theorem dX6_agrees_74 : decode cX6_agrees 74 = .ok (.ireturn, 1) := by decide +kernel
theorem dX6_agrees_75 : decode cX6_agrees 75 = .ok (.iinc 4 1, 3) := by decide +kernel
theorem dX6_agrees_78 : decode cX6_agrees 78 = .ok (.goto (-65), 3) := by decide +kernel
theorem dX6_agrees_81 : decode cX6_agrees 81 = .ok (.iconst 1, 1) := by decide +kernel
theorem dX6_agrees_82 : decode cX6_agrees 82 = .ok (.ireturn, 1) := by decide +kernel
set_option maxRecDepth 20000 in
theorem ggX6_tellingDate_X0_hasDeed : GoodIn wsX6_tellingDate wsX0_hasDeed := goodIn_r _ [10, 11, 102, 103, 104, 105, 106, 107, 108, 109, 110, 111, 112, 113, 114, 115, 116] rfl (by decide +kernel)
set_option maxRecDepth 20000 in
theorem gX6_tellingDate_X0_hasDeed : GoodIn wsX6_tellingDate (wsV RX6 70 RX0 yX0_hasDeed wsX0_hasDeed) := goodIn_app (goodIn_r _ [6, 7, 8, 9] rfl (by decide +kernel)) ggX6_tellingDate_X0_hasDeed
set_option maxRecDepth 20000 in
theorem ggX6_tellingDate_X6_lean : GoodIn wsX6_tellingDate wsX6_lean := goodIn_r _ [16, 17, 1, 18, 19, 20, 21, 22, 23, 24, 25, 26, 27, 28, 29, 30, 31, 32, 33, 34, 35, 36, 37, 38, 4, 39, 40, 41, 42, 43, 44, 45, 9, 46, 47, 48, 49, 50, 51, 52, 53, 54, 55, 56, 57, 58, 59, 60, 61, 62, 63, 64, 65, 66, 67, 68, 69, 70, 71, 72, 73, 74, 75, 76, 77, 78, 79, 80, 81, 82, 83, 84, 85, 86, 87, 88, 89, 90, 91, 92, 93, 94, 95, 96, 97, 98, 99, 100, 101, 102, 103, 104, 105, 106, 107, 108, 109, 110, 111, 112, 113, 114, 115, 116, 117, 118, 119, 120, 121, 122, 123, 124, 125, 126, 127, 128, 129, 130, 131, 132, 133, 134, 135] rfl (by decide +kernel)
set_option maxRecDepth 20000 in
theorem gX6_tellingDate_X6_lean : GoodIn wsX6_tellingDate (wsV RX6 79 RX6 yX6_lean wsX6_lean) := goodIn_app (goodIn_r _ [12, 13, 14, 15] rfl (by decide +kernel)) ggX6_tellingDate_X6_lean
theorem dX6_tellingDate_0 : decode cX6_tellingDate 0 = .ok (.aload_n 0, 1) := by decide +kernel
theorem dX6_tellingDate_1 : decode cX6_tellingDate 1 = .ok (.getfield 28, 3) := by decide +kernel
theorem dX6_tellingDate_4 : decode cX6_tellingDate 4 = .ok (.iload_n 1, 1) := by decide +kernel
theorem dX6_tellingDate_5 : decode cX6_tellingDate 5 = .ok (.invokevirtual 70, 3) := by decide +kernel
theorem dX6_tellingDate_8 : decode cX6_tellingDate 8 = .ok (.ifCond .ne 5, 3) := by decide +kernel
theorem dX6_tellingDate_11 : decode cX6_tellingDate 11 = .ok (.iconst (-1), 1) := by decide +kernel
theorem dX6_tellingDate_12 : decode cX6_tellingDate 12 = .ok (.ireturn, 1) := by decide +kernel
theorem dX6_tellingDate_13 : decode cX6_tellingDate 13 = .ok (.aload_n 0, 1) := by decide +kernel
theorem dX6_tellingDate_14 : decode cX6_tellingDate 14 = .ok (.getfield 28, 3) := by decide +kernel
theorem dX6_tellingDate_17 : decode cX6_tellingDate 17 = .ok (.getfield 76, 3) := by decide +kernel
theorem dX6_tellingDate_20 : decode cX6_tellingDate 20 = .ok (.iload_n 1, 1) := by decide +kernel
theorem dX6_tellingDate_21 : decode cX6_tellingDate 21 = .ok (.iaload, 1) := by decide +kernel
theorem dX6_tellingDate_22 : decode cX6_tellingDate 22 = .ok (.istore_n 3, 1) := by decide +kernel
theorem dX6_tellingDate_23 : decode cX6_tellingDate 23 = .ok (.iload_n 3, 1) := by decide +kernel
theorem dX6_tellingDate_24 : decode cX6_tellingDate 24 = .ok (.istore 4, 2) := by decide +kernel
theorem dX6_tellingDate_26 : decode cX6_tellingDate 26 = .ok (.bipush 11, 2) := by decide +kernel
theorem dX6_tellingDate_28 : decode cX6_tellingDate 28 = .ok (.istore 5, 2) := by decide +kernel
theorem dX6_tellingDate_30 : decode cX6_tellingDate 30 = .ok (.iload_n 3, 1) := by decide +kernel
theorem dX6_tellingDate_31 : decode cX6_tellingDate 31 = .ok (.istore 6, 2) := by decide +kernel
theorem dX6_tellingDate_33 : decode cX6_tellingDate 33 = .ok (.iload 6, 2) := by decide +kernel
theorem dX6_tellingDate_35 : decode cX6_tellingDate 35 = .ok (.iload_n 3, 1) := by decide +kernel
theorem dX6_tellingDate_36 : decode cX6_tellingDate 36 = .ok (.bipush 20, 2) := by decide +kernel
theorem dX6_tellingDate_38 : decode cX6_tellingDate 38 = .ok (.iadd, 1) := by decide +kernel
theorem dX6_tellingDate_39 : decode cX6_tellingDate 39 = .ok (.if_icmp .ge 37, 3) := by decide +kernel
theorem dX6_tellingDate_42 : decode cX6_tellingDate 42 = .ok (.aload_n 0, 1) := by decide +kernel
theorem dX6_tellingDate_43 : decode cX6_tellingDate 43 = .ok (.iload_n 1, 1) := by decide +kernel
theorem dX6_tellingDate_44 : decode cX6_tellingDate 44 = .ok (.iload_n 2, 1) := by decide +kernel
theorem dX6_tellingDate_45 : decode cX6_tellingDate 45 = .ok (.iload 6, 2) := by decide +kernel
theorem dX6_tellingDate_47 : decode cX6_tellingDate 47 = .ok (.invokevirtual 79, 3) := by decide +kernel
theorem dX6_tellingDate_50 : decode cX6_tellingDate 50 = .ok (.invokestatic 83, 3) := by decide +kernel
theorem dX6_tellingDate_53 : decode cX6_tellingDate 53 = .ok (.istore 7, 2) := by decide +kernel
theorem dX6_tellingDate_55 : decode cX6_tellingDate 55 = .ok (.iload 7, 2) := by decide +kernel
theorem dX6_tellingDate_57 : decode cX6_tellingDate 57 = .ok (.iload 5, 2) := by decide +kernel
theorem dX6_tellingDate_59 : decode cX6_tellingDate 59 = .ok (.if_icmp .ge 11, 3) := by decide +kernel
theorem dX6_tellingDate_62 : decode cX6_tellingDate 62 = .ok (.iload 6, 2) := by decide +kernel
theorem dX6_tellingDate_64 : decode cX6_tellingDate 64 = .ok (.istore 4, 2) := by decide +kernel
theorem dX6_tellingDate_66 : decode cX6_tellingDate 66 = .ok (.iload 7, 2) := by decide +kernel
theorem dX6_tellingDate_68 : decode cX6_tellingDate 68 = .ok (.istore 5, 2) := by decide +kernel
theorem dX6_tellingDate_70 : decode cX6_tellingDate 70 = .ok (.iinc 6 1, 3) := by decide +kernel
theorem dX6_tellingDate_73 : decode cX6_tellingDate 73 = .ok (.goto (-40), 3) := by decide +kernel
theorem dX6_tellingDate_76 : decode cX6_tellingDate 76 = .ok (.iload 4, 2) := by decide +kernel
theorem dX6_tellingDate_78 : decode cX6_tellingDate 78 = .ok (.ireturn, 1) := by decide +kernel
set_option maxRecDepth 20000 in
theorem ggX6_lean_X3_seesFromText : GoodIn wsX6_lean wsX3_seesFromText := goodIn_r _ [7, 8, 9, 10, 11, 12, 13, 14, 15, 16, 17, 18, 19, 20, 21, 22, 23, 24, 25, 26, 27, 28, 29, 30, 31, 32, 33, 34, 35, 36, 37, 38, 39, 40, 41, 42, 43, 44, 45, 46, 47, 48, 49, 50, 51, 52, 53, 54, 55, 56, 57, 58, 59, 60, 61, 62, 63, 64, 65, 66, 67, 68, 69, 70, 71, 72, 73, 74, 75, 76, 77, 78, 79, 104, 105, 106, 107, 108, 89, 90, 91, 92, 93, 94, 95, 96, 97, 98, 99, 100, 101, 102, 103, 109, 110, 111, 112, 113, 114, 115, 116, 117, 118, 119, 120, 121, 122] rfl (by decide +kernel)
set_option maxRecDepth 20000 in
theorem gX6_lean_X3_seesFromText : GoodIn wsX6_lean (wsV RX6 64 RX3 yX3_seesFromText wsX3_seesFromText) := goodIn_app (goodIn_r _ [3, 4, 5, 6] rfl (by decide +kernel)) ggX6_lean_X3_seesFromText
theorem dX6_lean_0 : decode cX6_lean 0 = .ok (.iconst 0, 1) := by decide +kernel
theorem dX6_lean_1 : decode cX6_lean 1 = .ok (.istore 4, 2) := by decide +kernel
theorem dX6_lean_3 : decode cX6_lean 3 = .ok (.iconst 0, 1) := by decide +kernel
theorem dX6_lean_4 : decode cX6_lean 4 = .ok (.istore 5, 2) := by decide +kernel
theorem dX6_lean_6 : decode cX6_lean 6 = .ok (.iload 5, 2) := by decide +kernel
theorem dX6_lean_8 : decode cX6_lean 8 = .ok (.bipush 9, 2) := by decide +kernel
theorem dX6_lean_10 : decode cX6_lean 10 = .ok (.if_icmp .gt 52, 3) := by decide +kernel
theorem dX6_lean_13 : decode cX6_lean 13 = .ok (.iload_n 2, 1) := by decide +kernel
theorem dX6_lean_14 : decode cX6_lean 14 = .ok (.iload 5, 2) := by decide +kernel
theorem dX6_lean_16 : decode cX6_lean 16 = .ok (.ishr, 1) := by decide +kernel
theorem dX6_lean_17 : decode cX6_lean 17 = .ok (.iconst 1, 1) := by decide +kernel
theorem dX6_lean_18 : decode cX6_lean 18 = .ok (.iand, 1) := by decide +kernel
theorem dX6_lean_19 : decode cX6_lean 19 = .ok (.iconst 1, 1) := by decide +kernel
theorem dX6_lean_20 : decode cX6_lean 20 = .ok (.if_icmp .ne 36, 3) := by decide +kernel
theorem dX6_lean_23 : decode cX6_lean 23 = .ok (.iload 4, 2) := by decide +kernel
theorem dX6_lean_25 : decode cX6_lean 25 = .ok (.aload_n 0, 1) := by decide +kernel
theorem dX6_lean_26 : decode cX6_lean 26 = .ok (.getfield 32, 3) := by decide +kernel
theorem dX6_lean_29 : decode cX6_lean 29 = .ok (.aload_n 0, 1) := by decide +kernel
theorem dX6_lean_30 : decode cX6_lean 30 = .ok (.getfield 28, 3) := by decide +kernel
theorem dX6_lean_33 : decode cX6_lean 33 = .ok (.getfield 87, 3) := by decide +kernel
theorem dX6_lean_36 : decode cX6_lean 36 = .ok (.iload_n 1, 1) := by decide +kernel
theorem dX6_lean_37 : decode cX6_lean 37 = .ok (.iaload, 1) := by decide +kernel
theorem dX6_lean_38 : decode cX6_lean 38 = .ok (.iload_n 3, 1) := by decide +kernel
theorem dX6_lean_39 : decode cX6_lean 39 = .ok (.iload_n 1, 1) := by decide +kernel
theorem dX6_lean_40 : decode cX6_lean 40 = .ok (.iload 5, 2) := by decide +kernel
theorem dX6_lean_42 : decode cX6_lean 42 = .ok (.invokevirtual 64, 3) := by decide +kernel
theorem dX6_lean_45 : decode cX6_lean 45 = .ok (.ifCond .eq 7, 3) := by decide +kernel
theorem dX6_lean_48 : decode cX6_lean 48 = .ok (.iconst 1, 1) := by decide +kernel
theorem dX6_lean_49 : decode cX6_lean 49 = .ok (.goto 4, 3) := by decide +kernel
theorem dX6_lean_52 : decode cX6_lean 52 = .ok (.iconst (-1), 1) := by decide +kernel
theorem dX6_lean_53 : decode cX6_lean 53 = .ok (.iadd, 1) := by decide +kernel
theorem dX6_lean_54 : decode cX6_lean 54 = .ok (.istore 4, 2) := by decide +kernel
theorem dX6_lean_56 : decode cX6_lean 56 = .ok (.iinc 5 1, 3) := by decide +kernel
theorem dX6_lean_59 : decode cX6_lean 59 = .ok (.goto (-53), 3) := by decide +kernel
theorem dX6_lean_62 : decode cX6_lean 62 = .ok (.iload 4, 2) := by decide +kernel
theorem dX6_lean_64 : decode cX6_lean 64 = .ok (.ireturn, 1) := by decide +kernel
theorem dX7_init_0 : decode cX7_init 0 = .ok (.aload_n 0, 1) := by decide +kernel
theorem dX7_init_1 : decode cX7_init 1 = .ok (.invokespecial 3, 3) := by decide +kernel
theorem dX7_init_4 : decode cX7_init 4 = .ok (.aload_n 0, 1) := by decide +kernel
theorem dX7_init_5 : decode cX7_init 5 = .ok (.bipush 72, 2) := by decide +kernel
theorem dX7_init_7 : decode cX7_init 7 = .ok (.newarray .int, 2) := by decide +kernel
theorem dX7_init_9 : decode cX7_init 9 = .ok (.putfield 9, 3) := by decide +kernel
theorem dX7_init_12 : decode cX7_init 12 = .ok (.aload_n 0, 1) := by decide +kernel
theorem dX7_init_13 : decode cX7_init 13 = .ok (.aload_n 1, 1) := by decide +kernel
theorem dX7_init_14 : decode cX7_init 14 = .ok (.putfield 15, 3) := by decide +kernel
theorem dX7_init_17 : decode cX7_init 17 = .ok (.return_, 1) := by decide +kernel
set_option maxRecDepth 20000 in
theorem ggX7_read_X0_clear : GoodIn wsX7_read wsX0_clear := goodIn_r _ [10, 11, 12, 13, 14, 15, 16, 17, 18, 19, 20, 21, 22, 23, 24, 25, 26, 27, 190, 191, 192, 193, 194, 195, 196, 197, 198, 199, 200, 201, 202, 203, 204, 205, 206, 207, 208, 209, 210] rfl (by decide +kernel)
set_option maxRecDepth 20000 in
theorem gX7_read_X0_clear_n23 : GoodIn wsX7_read (wsX0_clear) := ggX7_read_X0_clear
set_option maxRecDepth 20000 in
theorem ggX7_read_X9_sortOf : GoodIn wsX7_read wsX9_sortOf := goodIn_r _ [32, 33, 34, 211, 212, 213, 214, 215, 216, 217, 218, 219] rfl (by decide +kernel)
set_option maxRecDepth 20000 in
theorem gX7_read_X9_sortOf : GoodIn wsX7_read (wsV RX7 41 RX9 yX9_sortOf wsX9_sortOf) := goodIn_app (goodIn_r _ [28, 29, 30, 31] rfl (by decide +kernel)) ggX7_read_X9_sortOf
set_option maxRecDepth 20000 in
theorem ggX7_read_X7_readLine : GoodIn wsX7_read wsX7_readLine := goodIn_r _ [39, 6, 2, 28, 29, 30, 31, 32, 33, 34, 40, 41, 42, 38, 43, 1, 4, 44, 45, 46, 47, 48, 49, 50, 51, 52, 53, 54, 55, 56, 57, 58, 59, 60, 8, 61, 13, 62, 63, 64, 65, 66, 67, 68, 69, 70, 71, 72, 73, 74, 75, 76, 77, 78, 11, 79, 80, 81, 82, 83, 84, 85, 86, 87, 88, 89, 90, 14, 91, 92, 93, 94, 95, 96, 97, 98, 15, 99, 100, 101, 102, 103, 104, 105, 106, 107, 108, 109, 16, 110, 111, 112, 113, 114, 115, 116, 117, 118, 3, 119, 120, 121, 122, 123, 124, 125, 126, 127, 128, 129, 130, 22, 131, 26, 25, 132, 133, 134, 135, 136, 137, 138, 139, 140, 141, 142, 143, 144, 145, 146, 147, 5, 148, 149, 150, 151, 152, 153, 154, 155, 156, 157, 158, 159, 160, 161, 162, 163, 164, 165, 166, 167, 168, 169, 170, 171, 172, 173, 174, 175, 176, 177, 27, 178, 179, 180, 181, 182, 183, 184, 185, 186, 187, 188, 189, 211, 212, 213, 214, 215, 216, 217, 218, 219, 190, 191, 192, 193, 194, 195, 196, 197, 198, 199, 200, 201, 202, 203, 204, 205, 206, 207, 208, 209, 210] rfl (by decide +kernel)
set_option maxRecDepth 20000 in
theorem gX7_read_X7_readLine : GoodIn wsX7_read (wsV RX7 47 RX7 yX7_readLine wsX7_readLine) := goodIn_app (goodIn_r _ [35, 36, 37, 38] rfl (by decide +kernel)) ggX7_read_X7_readLine
theorem dX7_read_0 : decode cX7_read 0 = .ok (.aload_n 0, 1) := by decide +kernel
theorem dX7_read_1 : decode cX7_read 1 = .ok (.aload_n 1, 1) := by decide +kernel
theorem dX7_read_2 : decode cX7_read 2 = .ok (.putfield 19, 3) := by decide +kernel
theorem dX7_read_5 : decode cX7_read 5 = .ok (.aload_n 0, 1) := by decide +kernel
theorem dX7_read_6 : decode cX7_read 6 = .ok (.getfield 19, 3) := by decide +kernel
theorem dX7_read_9 : decode cX7_read 9 = .ok (.invokevirtual 23, 3) := by decide +kernel
theorem dX7_read_12 : decode cX7_read 12 = .ok (.aload_n 0, 1) := by decide +kernel
theorem dX7_read_13 : decode cX7_read 13 = .ok (.iconst 0, 1) := by decide +kernel
theorem dX7_read_14 : decode cX7_read 14 = .ok (.putfield 28, 3) := by decide +kernel
theorem dX7_read_17 : decode cX7_read 17 = .ok (.aload_n 0, 1) := by decide +kernel
theorem dX7_read_18 : decode cX7_read 18 = .ok (.iconst 0, 1) := by decide +kernel
theorem dX7_read_19 : decode cX7_read 19 = .ok (.putfield 32, 3) := by decide +kernel
theorem dX7_read_22 : decode cX7_read 22 = .ok (.aload_n 0, 1) := by decide +kernel
theorem dX7_read_23 : decode cX7_read 23 = .ok (.iconst 0, 1) := by decide +kernel
theorem dX7_read_24 : decode cX7_read 24 = .ok (.putfield 35, 3) := by decide +kernel
theorem dX7_read_27 : decode cX7_read 27 = .ok (.aload_n 0, 1) := by decide +kernel
theorem dX7_read_28 : decode cX7_read 28 = .ok (.iconst 0, 1) := by decide +kernel
theorem dX7_read_29 : decode cX7_read 29 = .ok (.putfield 38, 3) := by decide +kernel
theorem dX7_read_32 : decode cX7_read 32 = .ok (.iconst 0, 1) := by decide +kernel
theorem dX7_read_33 : decode cX7_read 33 = .ok (.istore_n 2, 1) := by decide +kernel
theorem dX7_read_34 : decode cX7_read 34 = .ok (.iload_n 2, 1) := by decide +kernel
theorem dX7_read_35 : decode cX7_read 35 = .ok (.sipush 700, 3) := by decide +kernel
theorem dX7_read_38 : decode cX7_read 38 = .ok (.if_icmp .ge 34, 3) := by decide +kernel
theorem dX7_read_41 : decode cX7_read 41 = .ok (.aload_n 0, 1) := by decide +kernel
theorem dX7_read_42 : decode cX7_read 42 = .ok (.getfield 35, 3) := by decide +kernel
theorem dX7_read_45 : decode cX7_read 45 = .ok (.ifCond .ne 27, 3) := by decide +kernel
theorem dX7_read_48 : decode cX7_read 48 = .ok (.aload_n 0, 1) := by decide +kernel
theorem dX7_read_49 : decode cX7_read 49 = .ok (.getfield 15, 3) := by decide +kernel
theorem dX7_read_52 : decode cX7_read 52 = .ok (.aload_n 0, 1) := by decide +kernel
theorem dX7_read_53 : decode cX7_read 53 = .ok (.getfield 28, 3) := by decide +kernel
theorem dX7_read_56 : decode cX7_read 56 = .ok (.invokevirtual 41, 3) := by decide +kernel
theorem dX7_read_59 : decode cX7_read 59 = .ok (.ifCond .eq 13, 3) := by decide +kernel
theorem dX7_read_62 : decode cX7_read 62 = .ok (.aload_n 0, 1) := by decide +kernel
theorem dX7_read_63 : decode cX7_read 63 = .ok (.invokevirtual 47, 3) := by decide +kernel
theorem dX7_read_66 : decode cX7_read 66 = .ok (.iinc 2 1, 3) := by decide +kernel
theorem dX7_read_69 : decode cX7_read 69 = .ok (.goto (-35), 3) := by decide +kernel
theorem dX7_read_72 : decode cX7_read 72 = .ok (.iload_n 2, 1) := by decide +kernel
theorem dX7_read_73 : decode cX7_read 73 = .ok (.ireturn, 1) := by decide +kernel
set_option maxRecDepth 20000 in
theorem ggX7_faultPlace_X9_placeOf : GoodIn wsX7_faultPlace wsX9_placeOf := goodIn_r _ [8, 9, 10, 11, 24, 25, 26, 27, 28, 29, 30, 31, 32] rfl (by decide +kernel)
