theorem dX11_law_24 : decode cX11_law 24 = .ok (.aload_n 0, 1) := by decide +kernel
theorem dX11_law_25 : decode cX11_law 25 = .ok (.getfield 59, 3) := by decide +kernel
theorem dX11_law_28 : decode cX11_law 28 = .ok (.getfield 194, 3) := by decide +kernel
theorem dX11_law_31 : decode cX11_law 31 = .ok (.astore_n 3, 1) := by decide +kernel
theorem dX11_law_32 : decode cX11_law 32 = .ok (.aload_n 3, 1) := by decide +kernel
theorem dX11_law_33 : decode cX11_law 33 = .ok (.aload_n 0, 1) := by decide +kernel
theorem dX11_law_34 : decode cX11_law 34 = .ok (.getfield 38, 3) := by decide +kernel
theorem dX11_law_37 : decode cX11_law 37 = .ok (.iload_n 2, 1) := by decide +kernel
theorem dX11_law_38 : decode cX11_law 38 = .ok (.invokevirtual 198, 3) := by decide +kernel
theorem dX11_law_41 : decode cX11_law 41 = .ok (.aload_n 3, 1) := by decide +kernel
theorem dX11_law_42 : decode cX11_law 42 = .ok (.aload_n 0, 1) := by decide +kernel
theorem dX11_law_43 : decode cX11_law 43 = .ok (.getfield 38, 3) := by decide +kernel
theorem dX11_law_46 : decode cX11_law 46 = .ok (.getfield 204, 3) := by decide +kernel
theorem dX11_law_49 : decode cX11_law 49 = .ok (.aload_n 0, 1) := by decide +kernel
theorem dX11_law_50 : decode cX11_law 50 = .ok (.getfield 28, 3) := by decide +kernel
theorem dX11_law_53 : decode cX11_law 53 = .ok (.aload_n 0, 1) := by decide +kernel
theorem dX11_law_54 : decode cX11_law 54 = .ok (.getfield 38, 3) := by decide +kernel
theorem dX11_law_57 : decode cX11_law 57 = .ok (.getfield 204, 3) := by decide +kernel
theorem dX11_law_60 : decode cX11_law 60 = .ok (.invokevirtual 179, 3) := by decide +kernel
theorem dX11_law_63 : decode cX11_law 63 = .ok (.aload_n 0, 1) := by decide +kernel
theorem dX11_law_64 : decode cX11_law 64 = .ok (.getfield 38, 3) := by decide +kernel
theorem dX11_law_67 : decode cX11_law 67 = .ok (.getfield 155, 3) := by decide +kernel
theorem dX11_law_70 : decode cX11_law 70 = .ok (.iload_n 2, 1) := by decide +kernel
theorem dX11_law_71 : decode cX11_law 71 = .ok (.if_icmp .ne 7, 3) := by decide +kernel
theorem dX11_law_74 : decode cX11_law 74 = .ok (.iconst 1, 1) := by decide +kernel
theorem dX11_law_75 : decode cX11_law 75 = .ok (.goto 4, 3) := by decide +kernel
theorem dX11_law_78 : decode cX11_law 78 = .ok (.iconst 0, 1) := by decide +kernel
theorem dX11_law_79 : decode cX11_law 79 = .ok (.invokevirtual 207, 3) := by decide +kernel
theorem dX11_law_82 : decode cX11_law 82 = .ok (.iload_n 1, 1) := by decide +kernel
theorem dX11_law_83 : decode cX11_law 83 = .ok (.ifCond .ne 11, 3) := by decide +kernel
theorem dX11_law_86 : decode cX11_law 86 = .ok (.aload_n 3, 1) := by decide +kernel
theorem dX11_law_87 : decode cX11_law 87 = .ok (.iconst 0, 1) := by decide +kernel
theorem dX11_law_88 : decode cX11_law 88 = .ok (.putfield 211, 3) := by decide +kernel
theorem dX11_law_91 : decode cX11_law 91 = .ok (.goto 14, 3) := by decide +kernel
theorem dX11_law_94 : decode cX11_law 94 = .ok (.aload_n 0, 1) := by decide +kernel
theorem dX11_law_95 : decode cX11_law 95 = .ok (.getfield 28, 3) := by decide +kernel
theorem dX11_law_98 : decode cX11_law 98 = .ok (.getfield 214, 3) := by decide +kernel
theorem dX11_law_101 : decode cX11_law 101 = .ok (.aload_n 3, 1) := by decide +kernel
theorem dX11_law_102 : decode cX11_law 102 = .ok (.invokevirtual 218, 3) := by decide +kernel
theorem dX11_law_105 : decode cX11_law 105 = .ok (.aload_n 0, 1) := by decide +kernel
theorem dX11_law_106 : decode cX11_law 106 = .ok (.getfield 28, 3) := by decide +kernel
theorem dX11_law_109 : decode cX11_law 109 = .ok (.getfield 214, 3) := by decide +kernel
theorem dX11_law_112 : decode cX11_law 112 = .ok (.iload_n 1, 1) := by decide +kernel
theorem dX11_law_113 : decode cX11_law 113 = .ok (.aload_n 3, 1) := by decide +kernel
theorem dX11_law_114 : decode cX11_law 114 = .ok (.invokevirtual 224, 3) := by decide +kernel
theorem dX11_law_117 : decode cX11_law 117 = .ok (.lreturn, 1) := by decide +kernel
set_option maxRecDepth 20000 in
theorem ggX11_sail_X0_hasBay : GoodIn wsX11_sail wsX0_hasBay := goodIn_r _ [8, 9, 70, 71, 72, 73, 74, 75, 76, 77, 78, 79, 80, 81, 82, 83, 84] rfl (by decide +kernel)
set_option maxRecDepth 20000 in
theorem gX11_sail_X0_hasBay : GoodIn wsX11_sail (wsV RX11 135 RX0 yX0_hasBay wsX0_hasBay) := goodIn_app (goodIn_r _ [4, 5, 6, 7] rfl (by decide +kernel)) ggX11_sail_X0_hasBay
set_option maxRecDepth 20000 in
theorem ggX11_sail_X0_daysBetween : GoodIn wsX11_sail wsX0_daysBetween := goodIn_r _ [13, 14, 15, 5, 6, 7, 8, 9, 70, 71, 72, 73, 74, 75, 76, 77, 78, 79, 80, 81, 82, 83, 84] rfl (by decide +kernel)
set_option maxRecDepth 20000 in
theorem gX11_sail_X0_daysBetween : GoodIn wsX11_sail (wsV RX11 163 RX0 yX0_daysBetween wsX0_daysBetween) := goodIn_app (goodIn_r _ [10, 11, 12, 7] rfl (by decide +kernel)) ggX11_sail_X0_daysBetween
set_option maxRecDepth 20000 in
theorem ggX11_sail_X2_sailed : GoodIn wsX11_sail wsX2_sailed := goodIn_r _ [20, 21, 22, 23, 19, 24, 25, 26, 27, 28, 29, 30, 31, 32, 33, 34, 85, 86, 87, 88, 89, 90, 58, 59, 60, 61, 62, 63, 64, 65, 66, 67, 68, 69] rfl (by decide +kernel)
set_option maxRecDepth 20000 in
theorem gX11_sail_X2_sailed : GoodIn wsX11_sail (wsV RX11 231 RX2 yX2_sailed wsX2_sailed) := goodIn_app (goodIn_r _ [16, 17, 18, 19] rfl (by decide +kernel)) ggX11_sail_X2_sailed
set_option maxRecDepth 20000 in
theorem ggX11_sail_X5_leaveFor : GoodIn wsX11_sail wsX5_leaveFor := goodIn_r _ [39, 40, 41, 42, 43, 58, 59, 60, 61, 62, 63, 64, 65, 66, 67, 68, 69] rfl (by decide +kernel)
set_option maxRecDepth 20000 in
theorem gX11_sail_X5_leaveFor : GoodIn wsX11_sail (wsV RX11 234 RX5 yX5_leaveFor wsX5_leaveFor) := goodIn_app (goodIn_r _ [35, 36, 37, 38] rfl (by decide +kernel)) ggX11_sail_X5_leaveFor
theorem dX11_sail_0 : decode cX11_sail 0 = .ok (.aload_n 0, 1) := by decide +kernel
theorem dX11_sail_1 : decode cX11_sail 1 = .ok (.getfield 28, 3) := by decide +kernel
theorem dX11_sail_4 : decode cX11_sail 4 = .ok (.iload_n 1, 1) := by decide +kernel
theorem dX11_sail_5 : decode cX11_sail 5 = .ok (.invokevirtual 135, 3) := by decide +kernel
theorem dX11_sail_8 : decode cX11_sail 8 = .ok (.ifCond .eq 14, 3) := by decide +kernel
theorem dX11_sail_11 : decode cX11_sail 11 = .ok (.aload_n 0, 1) := by decide +kernel
theorem dX11_sail_12 : decode cX11_sail 12 = .ok (.getfield 38, 3) := by decide +kernel
theorem dX11_sail_15 : decode cX11_sail 15 = .ok (.getfield 155, 3) := by decide +kernel
theorem dX11_sail_18 : decode cX11_sail 18 = .ok (.iload_n 1, 1) := by decide +kernel
theorem dX11_sail_19 : decode cX11_sail 19 = .ok (.if_icmp .ne 5, 3) := by decide +kernel
theorem dX11_sail_22 : decode cX11_sail 22 = .ok (.iconst (-1), 1) := by decide +kernel
theorem dX11_sail_23 : decode cX11_sail 23 = .ok (.ireturn, 1) := by decide +kernel
theorem dX11_sail_24 : decode cX11_sail 24 = .ok (.aload_n 0, 1) := by decide +kernel
theorem dX11_sail_25 : decode cX11_sail 25 = .ok (.getfield 28, 3) := by decide +kernel
theorem dX11_sail_28 : decode cX11_sail 28 = .ok (.aload_n 0, 1) := by decide +kernel
theorem dX11_sail_29 : decode cX11_sail 29 = .ok (.getfield 38, 3) := by decide +kernel
theorem dX11_sail_32 : decode cX11_sail 32 = .ok (.getfield 155, 3) := by decide +kernel
theorem dX11_sail_35 : decode cX11_sail 35 = .ok (.iload_n 1, 1) := by decide +kernel
theorem dX11_sail_36 : decode cX11_sail 36 = .ok (.invokevirtual 163, 3) := by decide +kernel
theorem dX11_sail_39 : decode cX11_sail 39 = .ok (.istore_n 2, 1) := by decide +kernel
theorem dX11_sail_40 : decode cX11_sail 40 = .ok (.aload_n 0, 1) := by decide +kernel
theorem dX11_sail_41 : decode cX11_sail 41 = .ok (.getfield 38, 3) := by decide +kernel
theorem dX11_sail_44 : decode cX11_sail 44 = .ok (.getfield 228, 3) := by decide +kernel
theorem dX11_sail_47 : decode cX11_sail 47 = .ok (.iconst (-1), 1) := by decide +kernel
theorem dX11_sail_48 : decode cX11_sail 48 = .ok (.if_icmp .ne 7, 3) := by decide +kernel
theorem dX11_sail_51 : decode cX11_sail 51 = .ok (.iload_n 2, 1) := by decide +kernel
theorem dX11_sail_52 : decode cX11_sail 52 = .ok (.ifCond .ne 6, 3) := by decide +kernel
theorem dX11_sail_55 : decode cX11_sail 55 = .ok (.bipush (-2), 2) := by decide +kernel
theorem dX11_sail_57 : decode cX11_sail 57 = .ok (.ireturn, 1) := by decide +kernel
theorem dX11_sail_58 : decode cX11_sail 58 = .ok (.aload_n 0, 1) := by decide +kernel
theorem dX11_sail_59 : decode cX11_sail 59 = .ok (.getfield 50, 3) := by decide +kernel
theorem dX11_sail_62 : decode cX11_sail 62 = .ok (.aload_n 0, 1) := by decide +kernel
theorem dX11_sail_63 : decode cX11_sail 63 = .ok (.getfield 38, 3) := by decide +kernel
theorem dX11_sail_66 : decode cX11_sail 66 = .ok (.getfield 155, 3) := by decide +kernel
theorem dX11_sail_69 : decode cX11_sail 69 = .ok (.invokevirtual 231, 3) := by decide +kernel
theorem dX11_sail_72 : decode cX11_sail 72 = .ok (.aload_n 0, 1) := by decide +kernel
theorem dX11_sail_73 : decode cX11_sail 73 = .ok (.getfield 38, 3) := by decide +kernel
theorem dX11_sail_76 : decode cX11_sail 76 = .ok (.iload_n 1, 1) := by decide +kernel
theorem dX11_sail_77 : decode cX11_sail 77 = .ok (.iload_n 2, 1) := by decide +kernel
theorem dX11_sail_78 : decode cX11_sail 78 = .ok (.invokevirtual 234, 3) := by decide +kernel
theorem dX11_sail_81 : decode cX11_sail 81 = .ok (.aload_n 0, 1) := by decide +kernel
theorem dX11_sail_82 : decode cX11_sail 82 = .ok (.getfield 38, 3) := by decide +kernel
theorem dX11_sail_85 : decode cX11_sail 85 = .ok (.getfield 238, 3) := by decide +kernel
theorem dX11_sail_88 : decode cX11_sail 88 = .ok (.ireturn, 1) := by decide +kernel
set_option maxRecDepth 20000 in
theorem ggX11_kind_X0_hasBay : GoodIn wsX11_kind wsX0_hasBay := goodIn_r _ [8, 9, 68, 69, 70, 71, 72, 73, 74, 75, 76, 77, 78, 79, 80, 81, 82] rfl (by decide +kernel)
set_option maxRecDepth 20000 in
theorem gX11_kind_X0_hasBay : GoodIn wsX11_kind (wsV RX11 135 RX0 yX0_hasBay wsX0_hasBay) := goodIn_app (goodIn_r _ [4, 5, 6, 7] rfl (by decide +kernel)) ggX11_kind_X0_hasBay
set_option maxRecDepth 20000 in
theorem ggX11_kind_X2_wasKind : GoodIn wsX11_kind wsX2_wasKind := goodIn_r _ [14, 15, 16, 17, 13, 18, 19, 20, 21, 22, 23, 24, 25, 26, 27, 28, 83, 84, 85, 86, 87, 88, 56, 57, 58, 59, 60, 61, 62, 63, 64, 65, 66, 67] rfl (by decide +kernel)
set_option maxRecDepth 20000 in
theorem gX11_kind_X2_wasKind : GoodIn wsX11_kind (wsV RX11 241 RX2 yX2_wasKind wsX2_wasKind) := goodIn_app (goodIn_r _ [10, 11, 12, 13] rfl (by decide +kernel)) ggX11_kind_X2_wasKind
set_option maxRecDepth 20000 in
theorem ggX11_kind_X5_remember : GoodIn wsX11_kind wsX5_remember := goodIn_r _ [33, 34, 35, 36, 37, 38, 39, 40, 41, 56, 57, 58, 59, 60, 61, 62, 63, 64, 65, 66, 67] rfl (by decide +kernel)
set_option maxRecDepth 20000 in
theorem gX11_kind_X5_remember : GoodIn wsX11_kind (wsV RX11 244 RX5 yX5_remember wsX5_remember) := goodIn_app (goodIn_r _ [29, 30, 31, 32] rfl (by decide +kernel)) ggX11_kind_X5_remember
theorem dX11_kind_0 : decode cX11_kind 0 = .ok (.aload_n 0, 1) := by decide +kernel
theorem dX11_kind_1 : decode cX11_kind 1 = .ok (.getfield 28, 3) := by decide +kernel
theorem dX11_kind_4 : decode cX11_kind 4 = .ok (.iload_n 1, 1) := by decide +kernel
theorem dX11_kind_5 : decode cX11_kind 5 = .ok (.invokevirtual 135, 3) := by decide +kernel
theorem dX11_kind_8 : decode cX11_kind 8 = .ok (.ifCond .eq 13, 3) := by decide +kernel
theorem dX11_kind_11 : decode cX11_kind 11 = .ok (.iload_n 2, 1) := by decide +kernel
theorem dX11_kind_12 : decode cX11_kind 12 = .ok (.ifCond .lt 9, 3) := by decide +kernel
theorem dX11_kind_15 : decode cX11_kind 15 = .ok (.iload_n 2, 1) := by decide +kernel
theorem dX11_kind_16 : decode cX11_kind 16 = .ok (.bipush 9, 2) := by decide +kernel
theorem dX11_kind_18 : decode cX11_kind 18 = .ok (.if_icmp .le 5, 3) := by decide +kernel
theorem dX11_kind_21 : decode cX11_kind 21 = .ok (.iconst (-1), 1) := by decide +kernel
theorem dX11_kind_22 : decode cX11_kind 22 = .ok (.ireturn, 1) := by decide +kernel
theorem dX11_kind_23 : decode cX11_kind 23 = .ok (.aload_n 0, 1) := by decide +kernel
theorem dX11_kind_24 : decode cX11_kind 24 = .ok (.getfield 50, 3) := by decide +kernel
theorem dX11_kind_27 : decode cX11_kind 27 = .ok (.iload_n 1, 1) := by decide +kernel
theorem dX11_kind_28 : decode cX11_kind 28 = .ok (.invokevirtual 241, 3) := by decide +kernel
theorem dX11_kind_31 : decode cX11_kind 31 = .ok (.aload_n 0, 1) := by decide +kernel
theorem dX11_kind_32 : decode cX11_kind 32 = .ok (.getfield 38, 3) := by decide +kernel
theorem dX11_kind_35 : decode cX11_kind 35 = .ok (.iload_n 1, 1) := by decide +kernel
theorem dX11_kind_36 : decode cX11_kind 36 = .ok (.iload_n 2, 1) := by decide +kernel
theorem dX11_kind_37 : decode cX11_kind 37 = .ok (.invokevirtual 244, 3) := by decide +kernel
theorem dX11_kind_40 : decode cX11_kind 40 = .ok (.aload_n 0, 1) := by decide +kernel
theorem dX11_kind_41 : decode cX11_kind 41 = .ok (.getfield 38, 3) := by decide +kernel
theorem dX11_kind_44 : decode cX11_kind 44 = .ok (.getfield 145, 3) := by decide +kernel
theorem dX11_kind_47 : decode cX11_kind 47 = .ok (.iload_n 1, 1) := by decide +kernel
theorem dX11_kind_48 : decode cX11_kind 48 = .ok (.iaload, 1) := by decide +kernel
theorem dX11_kind_49 : decode cX11_kind 49 = .ok (.ireturn, 1) := by decide +kernel
set_option maxRecDepth 20000 in
theorem ggX11_copy_X2_copied : GoodIn wsX11_copy wsX2_copied := goodIn_r _ [7, 8, 9, 10, 6, 11, 12, 13, 14, 15, 16, 17, 18, 19, 20, 21, 48, 49, 50, 51, 52, 53, 36, 37, 38, 39, 40, 41, 42, 43, 44, 45, 46, 47] rfl (by decide +kernel)
set_option maxRecDepth 20000 in
theorem gX11_copy_X2_copied : GoodIn wsX11_copy (wsV RX11 250 RX2 yX2_copied wsX2_copied) := goodIn_app (goodIn_r _ [3, 4, 5, 6] rfl (by decide +kernel)) ggX11_copy_X2_copied
theorem dX11_copy_0 : decode cX11_copy 0 = .ok (.aload_n 0, 1) := by decide +kernel
theorem dX11_copy_1 : decode cX11_copy 1 = .ok (.getfield 38, 3) := by decide +kernel
theorem dX11_copy_4 : decode cX11_copy 4 = .ok (.getfield 247, 3) := by decide +kernel
theorem dX11_copy_7 : decode cX11_copy 7 = .ok (.iload_n 1, 1) := by decide +kernel
theorem dX11_copy_8 : decode cX11_copy 8 = .ok (.if_icmp .ne 5, 3) := by decide +kernel
theorem dX11_copy_11 : decode cX11_copy 11 = .ok (.iconst 0, 1) := by decide +kernel
theorem dX11_copy_12 : decode cX11_copy 12 = .ok (.ireturn, 1) := by decide +kernel
theorem dX11_copy_13 : decode cX11_copy 13 = .ok (.aload_n 0, 1) := by decide +kernel
theorem dX11_copy_14 : decode cX11_copy 14 = .ok (.getfield 50, 3) := by decide +kernel
theorem dX11_copy_17 : decode cX11_copy 17 = .ok (.invokevirtual 250, 3) := by decide +kernel
theorem dX11_copy_20 : decode cX11_copy 20 = .ok (.aload_n 0, 1) := by decide +kernel
theorem dX11_copy_21 : decode cX11_copy 21 = .ok (.getfield 38, 3) := by decide +kernel
theorem dX11_copy_24 : decode cX11_copy 24 = .ok (.iload_n 1, 1) := by decide +kernel
theorem dX11_copy_25 : decode cX11_copy 25 = .ok (.putfield 247, 3) := by decide +kernel
theorem dX11_copy_28 : decode cX11_copy 28 = .ok (.iconst 1, 1) := by decide +kernel
theorem dX11_copy_29 : decode cX11_copy 29 = .ok (.ireturn, 1) := by decide +kernel
set_option maxRecDepth 20000 in
theorem ggX11_go_X2_clear : GoodIn wsX11_go wsX2_clear := goodIn_r _ [8, 9, 175, 176, 177, 178, 179, 180] rfl (by decide +kernel)
set_option maxRecDepth 20000 in
theorem gX11_go_X2_clear : GoodIn wsX11_go (wsV RX11 130 RX2 yX2_clear wsX2_clear) := goodIn_app (goodIn_r _ [4, 5, 6, 7] rfl (by decide +kernel)) ggX11_go_X2_clear
set_option maxRecDepth 20000 in
theorem ggX11_go_X1_asTold : GoodIn wsX11_go wsX1_asTold := goodIn_r _ [14, 15, 16, 17, 18, 19, 20, 21, 22, 23, 24, 25, 26, 27, 28, 29, 30, 31, 32, 33, 34, 35, 36, 37, 38, 181, 182, 183, 184, 185, 186, 187, 188, 189, 163, 164, 165, 166, 167, 168, 169, 170, 171, 172, 173, 174] rfl (by decide +kernel)
set_option maxRecDepth 20000 in
theorem gX11_go_X1_asTold : GoodIn wsX11_go (wsV RX11 253 RX1 yX1_asTold wsX1_asTold) := goodIn_app (goodIn_r _ [10, 11, 12, 13] rfl (by decide +kernel)) ggX11_go_X1_asTold
set_option maxRecDepth 20000 in
theorem ggX11_go_X1_pass : GoodIn wsX11_go wsX1_pass := goodIn_r _ [42, 43, 21, 20, 18, 19, 44, 45, 46, 25, 47, 27, 48, 49, 50, 51, 28, 29, 30, 52, 53, 54, 55, 31, 32, 33, 56, 57, 58, 59, 35, 60, 61, 62, 63, 64, 65, 66, 67, 68, 69, 70, 71, 72, 73, 13, 74, 17, 75, 76, 77, 78, 79, 80, 81, 82, 83, 84, 85, 86, 87, 88, 89, 90, 91, 92, 93, 94, 95, 96, 97, 98, 99, 100, 101, 102, 103, 104, 105, 106, 107, 108, 109, 110, 111, 112, 113, 114, 115, 116, 117, 118, 119, 120, 121, 122, 123, 124, 125, 126, 127, 128, 129, 130, 131, 132, 133, 134, 135, 136, 137, 138, 139, 140, 141, 142, 143, 144, 145, 146, 147, 148, 181, 182, 183, 184, 185, 186, 187, 188, 189, 190, 191, 192, 193, 194, 195, 196, 197, 198, 199, 200, 201, 202, 203, 204, 163, 164, 165, 166, 167, 168, 169, 170, 171, 172, 173, 174, 205, 206, 207, 208, 209, 210, 211, 212, 213, 214, 215, 216, 217, 218] rfl (by decide +kernel)
set_option maxRecDepth 20000 in
theorem gX11_go_X1_pass : GoodIn wsX11_go (wsV RX11 256 RX1 yX1_pass wsX1_pass) := goodIn_app (goodIn_r _ [39, 40, 41, 13] rfl (by decide +kernel)) ggX11_go_X1_pass
theorem dX11_go_0 : decode cX11_go 0 = .ok (.iload_n 1, 1) := by decide +kernel
theorem dX11_go_1 : decode cX11_go 1 = .ok (.ifCond .lt 24, 3) := by decide +kernel
theorem dX11_go_4 : decode cX11_go 4 = .ok (.iload_n 1, 1) := by decide +kernel
theorem dX11_go_5 : decode cX11_go 5 = .ok (.bipush 99, 2) := by decide +kernel
theorem dX11_go_7 : decode cX11_go 7 = .ok (.if_icmp .gt 18, 3) := by decide +kernel
theorem dX11_go_10 : decode cX11_go 10 = .ok (.aload_n 0, 1) := by decide +kernel
theorem dX11_go_11 : decode cX11_go 11 = .ok (.getfield 38, 3) := by decide +kernel
theorem dX11_go_14 : decode cX11_go 14 = .ok (.getfield 204, 3) := by decide +kernel
theorem dX11_go_17 : decode cX11_go 17 = .ok (.iload_n 1, 1) := by decide +kernel
theorem dX11_go_18 : decode cX11_go 18 = .ok (.iadd, 1) := by decide +kernel
theorem dX11_go_19 : decode cX11_go 19 = .ok (.sipush 9900, 3) := by decide +kernel
theorem dX11_go_22 : decode cX11_go 22 = .ok (.if_icmp .le 5, 3) := by decide +kernel
theorem dX11_go_25 : decode cX11_go 25 = .ok (.iconst (-1), 1) := by decide +kernel
theorem dX11_go_26 : decode cX11_go 26 = .ok (.ireturn, 1) := by decide +kernel
theorem dX11_go_27 : decode cX11_go 27 = .ok (.iload_n 1, 1) := by decide +kernel
theorem dX11_go_28 : decode cX11_go 28 = .ok (.ifCond .le 10, 3) := by decide +kernel
theorem dX11_go_31 : decode cX11_go 31 = .ok (.aload_n 0, 1) := by decide +kernel
theorem dX11_go_32 : decode cX11_go 32 = .ok (.getfield 50, 3) := by decide +kernel
theorem dX11_go_35 : decode cX11_go 35 = .ok (.invokevirtual 130, 3) := by decide +kernel
theorem dX11_go_38 : decode cX11_go 38 = .ok (.aload_n 0, 1) := by decide +kernel
theorem dX11_go_39 : decode cX11_go 39 = .ok (.getfield 66, 3) := by decide +kernel
theorem dX11_go_42 : decode cX11_go 42 = .ok (.invokevirtual 253, 3) := by decide +kernel
theorem dX11_go_45 : decode cX11_go 45 = .ok (.iconst 0, 1) := by decide +kernel
theorem dX11_go_46 : decode cX11_go 46 = .ok (.istore_n 2, 1) := by decide +kernel
theorem dX11_go_47 : decode cX11_go 47 = .ok (.iload_n 2, 1) := by decide +kernel
theorem dX11_go_48 : decode cX11_go 48 = .ok (.iload_n 1, 1) := by decide +kernel
theorem dX11_go_49 : decode cX11_go 49 = .ok (.if_icmp .ge 20, 3) := by decide +kernel
theorem dX11_go_52 : decode cX11_go 52 = .ok (.aload_n 0, 1) := by decide +kernel
theorem dX11_go_53 : decode cX11_go 53 = .ok (.getfield 66, 3) := by decide +kernel
theorem dX11_go_56 : decode cX11_go 56 = .ok (.aload_n 0, 1) := by decide +kernel
theorem dX11_go_57 : decode cX11_go 57 = .ok (.getfield 38, 3) := by decide +kernel
theorem dX11_go_60 : decode cX11_go 60 = .ok (.invokevirtual 256, 3) := by decide +kernel
theorem dX11_go_63 : decode cX11_go 63 = .ok (.iinc 2 1, 3) := by decide +kernel
theorem dX11_go_66 : decode cX11_go 66 = .ok (.goto (-19), 3) := by decide +kernel
theorem dX11_go_69 : decode cX11_go 69 = .ok (.aload_n 0, 1) := by decide +kernel
theorem dX11_go_70 : decode cX11_go 70 = .ok (.getfield 38, 3) := by decide +kernel
theorem dX11_go_73 : decode cX11_go 73 = .ok (.getfield 204, 3) := by decide +kernel
theorem dX11_go_76 : decode cX11_go 76 = .ok (.ireturn, 1) := by decide +kernel
set_option maxRecDepth 20000 in
theorem ggX11_firstAdrift_X1_asItGoes : GoodIn wsX11_firstAdrift wsX1_asItGoes := goodIn_r _ [6, 7, 8, 9, 10, 5, 11, 12, 13, 14, 15, 16, 17, 18, 19, 20, 21, 22, 23, 24, 25, 26, 27, 28, 29, 30, 31, 32, 33, 34, 163, 164, 165, 166, 167, 168, 169, 170, 171, 172, 173, 174, 175, 176, 177, 178, 179, 180, 181, 182, 183] rfl (by decide +kernel)
set_option maxRecDepth 20000 in
theorem gX11_firstAdrift_X1_asItGoes : GoodIn wsX11_firstAdrift (wsV RX11 259 RX1 yX1_asItGoes wsX1_asItGoes) := goodIn_app (goodIn_r _ [2, 3, 4, 5] rfl (by decide +kernel)) ggX11_firstAdrift_X1_asItGoes
set_option maxRecDepth 20000 in
theorem ggX11_firstAdrift_X1_firstAdriftOf : GoodIn wsX11_firstAdrift wsX1_firstAdriftOf := goodIn_r _ [38, 12, 39, 40, 41, 5, 42, 43, 17, 16, 14, 15, 44, 45, 46, 21, 47, 23, 48, 49, 50, 51, 24, 25, 26, 52, 53, 54, 55, 27, 28, 29, 56, 57, 58, 59, 31, 60, 61, 62, 63, 64, 65, 66, 67, 68, 69, 70, 71, 72, 73, 74, 7, 75, 76, 77, 78, 79, 80, 81, 82, 83, 84, 85, 86, 87, 88, 89, 90, 91, 92, 93, 94, 95, 96, 97, 98, 99, 100, 101, 102, 103, 104, 105, 106, 107, 108, 109, 110, 111, 112, 113, 114, 115, 116, 117, 118, 119, 120, 121, 122, 123, 124, 125, 126, 127, 128, 129, 130, 131, 132, 133, 134, 135, 136, 137, 138, 139, 140, 141, 142, 143, 144, 145, 146, 147, 148, 163, 164, 165, 166, 167, 168, 169, 170, 171, 172, 173, 174, 175, 176, 177, 178, 179, 180, 181, 182, 183, 184, 185, 186, 187, 188, 189, 190, 191, 192, 193, 194, 195, 196, 197, 198, 199, 200, 201, 202, 203, 204, 205, 206, 207, 208, 209, 210, 211, 212] rfl (by decide +kernel)
set_option maxRecDepth 20000 in
theorem gX11_firstAdrift_X1_firstAdriftOf : GoodIn wsX11_firstAdrift (wsV RX11 262 RX1 yX1_firstAdriftOf wsX1_firstAdriftOf) := goodIn_app (goodIn_r _ [35, 36, 37, 5] rfl (by decide +kernel)) ggX11_firstAdrift_X1_firstAdriftOf
theorem dX11_firstAdrift_0 : decode cX11_firstAdrift 0 = .ok (.iload_n 1, 1) := by decide +kernel
theorem dX11_firstAdrift_1 : decode cX11_firstAdrift 1 = .ok (.iconst 1, 1) := by decide +kernel
theorem dX11_firstAdrift_2 : decode cX11_firstAdrift 2 = .ok (.if_icmp .lt 9, 3) := by decide +kernel
theorem dX11_firstAdrift_5 : decode cX11_firstAdrift 5 = .ok (.iload_n 1, 1) := by decide +kernel
theorem dX11_firstAdrift_6 : decode cX11_firstAdrift 6 = .ok (.bipush 99, 2) := by decide +kernel
theorem dX11_firstAdrift_8 : decode cX11_firstAdrift 8 = .ok (.if_icmp .le 5, 3) := by decide +kernel
theorem dX11_firstAdrift_11 : decode cX11_firstAdrift 11 = .ok (.iconst (-1), 1) := by decide +kernel
theorem dX11_firstAdrift_12 : decode cX11_firstAdrift 12 = .ok (.ireturn, 1) := by decide +kernel
theorem dX11_firstAdrift_13 : decode cX11_firstAdrift 13 = .ok (.aload_n 0, 1) := by decide +kernel
theorem dX11_firstAdrift_14 : decode cX11_firstAdrift 14 = .ok (.getfield 66, 3) := by decide +kernel
theorem dX11_firstAdrift_17 : decode cX11_firstAdrift 17 = .ok (.invokevirtual 259, 3) := by decide +kernel
theorem dX11_firstAdrift_20 : decode cX11_firstAdrift 20 = .ok (.aload_n 0, 1) := by decide +kernel
theorem dX11_firstAdrift_21 : decode cX11_firstAdrift 21 = .ok (.getfield 66, 3) := by decide +kernel
theorem dX11_firstAdrift_24 : decode cX11_firstAdrift 24 = .ok (.iload_n 1, 1) := by decide +kernel
theorem dX11_firstAdrift_25 : decode cX11_firstAdrift 25 = .ok (.invokevirtual 262, 3) := by decide +kernel
theorem dX11_firstAdrift_28 : decode cX11_firstAdrift 28 = .ok (.ireturn, 1) := by decide +kernel
set_option maxRecDepth 20000 in
theorem ggX11_way_X0_hasBay : GoodIn wsX11_way wsX0_hasBay := goodIn_r _ [7, 8, 155, 156, 157, 158, 159, 160, 161, 162, 163, 164, 165, 166, 167, 168, 169] rfl (by decide +kernel)
set_option maxRecDepth 20000 in
theorem gX11_way_X0_hasBay : GoodIn wsX11_way (wsV RX11 135 RX0 yX0_hasBay wsX0_hasBay) := goodIn_app (goodIn_r _ [3, 4, 5, 6] rfl (by decide +kernel)) ggX11_way_X0_hasBay
set_option maxRecDepth 20000 in
theorem ggX11_way_X10_plan : GoodIn wsX11_way wsX10_plan := goodIn_r _ [13, 14, 15, 16, 17, 18, 19, 20, 21, 22, 23, 24, 25, 26, 12, 27, 28, 29, 30, 31, 32, 33, 34, 35, 36, 37, 38, 39, 40, 41, 42, 43, 44, 45, 46, 47, 48, 49, 50, 51, 52, 53, 54, 55, 56, 57, 58, 59, 60, 61, 62, 63, 64, 65, 66, 67, 68, 69, 70, 71, 72, 73, 74, 75, 76, 77, 78, 79, 80, 6, 81, 82, 83, 84, 85, 86, 87, 88, 89, 90, 91, 92, 93, 94, 95, 96, 97, 98, 99, 100, 101, 102, 103, 104, 105, 106, 107, 108, 109, 110, 111, 112, 113, 114, 115, 116, 117, 118, 119, 120, 121, 122, 123, 124, 125, 126, 127, 128, 129, 130, 131, 132, 133, 4, 5, 7, 8, 148, 149, 150, 151, 152, 153, 154, 170, 171, 172, 173, 174, 175, 176, 177, 178, 179, 180, 181, 155, 156, 157, 158, 159, 160, 161, 162, 163, 164, 165, 166, 167, 168, 169, 182, 183, 184, 185, 186, 187, 188, 189, 190, 191, 192, 193, 194, 195, 196, 197, 198, 199, 200] rfl (by decide +kernel)
set_option maxRecDepth 20000 in
theorem gX11_way_X10_plan : GoodIn wsX11_way (wsV RX11 265 RX10 yX10_plan wsX10_plan) := goodIn_app (goodIn_r _ [9, 10, 11, 12] rfl (by decide +kernel)) ggX11_way_X10_plan
theorem dX11_way_0 : decode cX11_way 0 = .ok (.aload_n 0, 1) := by decide +kernel
theorem dX11_way_1 : decode cX11_way 1 = .ok (.getfield 28, 3) := by decide +kernel
theorem dX11_way_4 : decode cX11_way 4 = .ok (.iload_n 1, 1) := by decide +kernel
theorem dX11_way_5 : decode cX11_way 5 = .ok (.invokevirtual 135, 3) := by decide +kernel
theorem dX11_way_8 : decode cX11_way 8 = .ok (.ifCond .eq 12, 3) := by decide +kernel
theorem dX11_way_11 : decode cX11_way 11 = .ok (.iload_n 2, 1) := by decide +kernel
theorem dX11_way_12 : decode cX11_way 12 = .ok (.ifCond .lt 8, 3) := by decide +kernel
theorem dX11_way_15 : decode cX11_way 15 = .ok (.iload_n 2, 1) := by decide +kernel
theorem dX11_way_16 : decode cX11_way 16 = .ok (.iconst 1, 1) := by decide +kernel
theorem dX11_way_17 : decode cX11_way 17 = .ok (.if_icmp .le 5, 3) := by decide +kernel
theorem dX11_way_20 : decode cX11_way 20 = .ok (.iconst (-1), 1) := by decide +kernel
theorem dX11_way_21 : decode cX11_way 21 = .ok (.ireturn, 1) := by decide +kernel
theorem dX11_way_22 : decode cX11_way 22 = .ok (.aload_n 0, 1) := by decide +kernel
theorem dX11_way_23 : decode cX11_way 23 = .ok (.getfield 75, 3) := by decide +kernel
theorem dX11_way_26 : decode cX11_way 26 = .ok (.invokevirtual 265, 3) := by decide +kernel
theorem dX11_way_29 : decode cX11_way 29 = .ok (.aload_n 0, 1) := by decide +kernel
theorem dX11_way_30 : decode cX11_way 30 = .ok (.getfield 75, 3) := by decide +kernel
theorem dX11_way_33 : decode cX11_way 33 = .ok (.getfield 268, 3) := by decide +kernel
theorem dX11_way_36 : decode cX11_way 36 = .ok (.iload_n 1, 1) := by decide +kernel
theorem dX11_way_37 : decode cX11_way 37 = .ok (.iaload, 1) := by decide +kernel
theorem dX11_way_38 : decode cX11_way 38 = .ok (.iconst (-1), 1) := by decide +kernel
theorem dX11_way_39 : decode cX11_way 39 = .ok (.if_icmp .ne 6, 3) := by decide +kernel
theorem dX11_way_42 : decode cX11_way 42 = .ok (.bipush (-2), 2) := by decide +kernel
theorem dX11_way_44 : decode cX11_way 44 = .ok (.ireturn, 1) := by decide +kernel
theorem dX11_way_45 : decode cX11_way 45 = .ok (.iload_n 2, 1) := by decide +kernel
theorem dX11_way_46 : decode cX11_way 46 = .ok (.ifCond .ne 15, 3) := by decide +kernel
theorem dX11_way_49 : decode cX11_way 49 = .ok (.aload_n 0, 1) := by decide +kernel
theorem dX11_way_50 : decode cX11_way 50 = .ok (.getfield 75, 3) := by decide +kernel
theorem dX11_way_53 : decode cX11_way 53 = .ok (.getfield 268, 3) := by decide +kernel
theorem dX11_way_56 : decode cX11_way 56 = .ok (.iload_n 1, 1) := by decide +kernel
theorem dX11_way_57 : decode cX11_way 57 = .ok (.iaload, 1) := by decide +kernel
theorem dX11_way_58 : decode cX11_way 58 = .ok (.goto 12, 3) := by decide +kernel
theorem dX11_way_61 : decode cX11_way 61 = .ok (.aload_n 0, 1) := by decide +kernel
theorem dX11_way_62 : decode cX11_way 62 = .ok (.getfield 75, 3) := by decide +kernel
theorem dX11_way_65 : decode cX11_way 65 = .ok (.getfield 271, 3) := by decide +kernel
theorem dX11_way_68 : decode cX11_way 68 = .ok (.iload_n 1, 1) := by decide +kernel
theorem dX11_way_69 : decode cX11_way 69 = .ok (.iaload, 1) := by decide +kernel
theorem dX11_way_70 : decode cX11_way 70 = .ok (.ireturn, 1) := by decide +kernel
set_option maxRecDepth 20000 in
theorem ggX11_never_X10_plan : GoodIn wsX11_never wsX10_plan := goodIn_r _ [7, 8, 9, 10, 11, 12, 13, 14, 15, 16, 17, 18, 19, 20, 6, 21, 22, 23, 24, 25, 26, 27, 28, 29, 30, 31, 32, 33, 34, 35, 36, 37, 38, 39, 40, 41, 42, 43, 44, 45, 46, 47, 48, 49, 50, 51, 52, 53, 54, 55, 56, 57, 58, 59, 60, 61, 62, 63, 64, 65, 66, 67, 68, 69, 70, 71, 72, 73, 74, 75, 76, 77, 78, 79, 80, 81, 82, 83, 84, 85, 86, 87, 88, 89, 90, 91, 92, 93, 94, 95, 96, 97, 98, 99, 100, 101, 102, 103, 104, 105, 106, 107, 108, 109, 110, 111, 112, 113, 114, 115, 116, 117, 118, 119, 120, 121, 122, 123, 124, 125, 126, 127, 128, 129, 130, 131, 132, 162, 163, 164, 165, 166, 167, 168, 169, 170, 171, 172, 173, 174, 175, 176, 177, 178, 179, 180, 147, 148, 149, 150, 151, 152, 153, 154, 155, 156, 157, 158, 159, 160, 161, 181, 182, 183, 184, 185, 186, 187, 188, 189, 190, 191, 192, 193, 194, 195, 196, 197, 198, 199] rfl (by decide +kernel)
set_option maxRecDepth 20000 in
theorem gX11_never_X10_plan : GoodIn wsX11_never (wsV RX11 265 RX10 yX10_plan wsX10_plan) := goodIn_app (goodIn_r _ [3, 4, 5, 6] rfl (by decide +kernel)) ggX11_never_X10_plan
theorem dX11_never_0 : decode cX11_never 0 = .ok (.aload_n 0, 1) := by decide +kernel
theorem dX11_never_1 : decode cX11_never 1 = .ok (.getfield 75, 3) := by decide +kernel
theorem dX11_never_4 : decode cX11_never 4 = .ok (.invokevirtual 265, 3) := by decide +kernel
theorem dX11_never_7 : decode cX11_never 7 = .ok (.iconst 0, 1) := by decide +kernel
theorem dX11_never_8 : decode cX11_never 8 = .ok (.istore_n 1, 1) := by decide +kernel
theorem dX11_never_9 : decode cX11_never 9 = .ok (.iconst 0, 1) := by decide +kernel
theorem dX11_never_10 : decode cX11_never 10 = .ok (.istore_n 2, 1) := by decide +kernel
theorem dX11_never_11 : decode cX11_never 11 = .ok (.iload_n 2, 1) := by decide +kernel
theorem dX11_never_12 : decode cX11_never 12 = .ok (.aload_n 0, 1) := by decide +kernel
theorem dX11_never_13 : decode cX11_never 13 = .ok (.getfield 28, 3) := by decide +kernel
theorem dX11_never_16 : decode cX11_never 16 = .ok (.getfield 274, 3) := by decide +kernel
theorem dX11_never_19 : decode cX11_never 19 = .ok (.if_icmp .ge 34, 3) := by decide +kernel
theorem dX11_never_22 : decode cX11_never 22 = .ok (.iload_n 2, 1) := by decide +kernel
theorem dX11_never_23 : decode cX11_never 23 = .ok (.bipush 8, 2) := by decide +kernel
theorem dX11_never_25 : decode cX11_never 25 = .ok (.if_icmp .ge 28, 3) := by decide +kernel
theorem dX11_never_28 : decode cX11_never 28 = .ok (.aload_n 0, 1) := by decide +kernel
theorem dX11_never_29 : decode cX11_never 29 = .ok (.getfield 75, 3) := by decide +kernel
theorem dX11_never_32 : decode cX11_never 32 = .ok (.getfield 268, 3) := by decide +kernel
theorem dX11_never_35 : decode cX11_never 35 = .ok (.iload_n 2, 1) := by decide +kernel
theorem dX11_never_36 : decode cX11_never 36 = .ok (.iaload, 1) := by decide +kernel
theorem dX11_never_37 : decode cX11_never 37 = .ok (.iconst (-1), 1) := by decide +kernel
theorem dX11_never_38 : decode cX11_never 38 = .ok (.if_icmp .ne 9, 3) := by decide +kernel
theorem dX11_never_41 : decode cX11_never 41 = .ok (.iload_n 1, 1) := by decide +kernel
theorem dX11_never_42 : decode cX11_never 42 = .ok (.iconst 1, 1) := by decide +kernel
theorem dX11_never_43 : decode cX11_never 43 = .ok (.iload_n 2, 1) := by decide +kernel
theorem dX11_never_44 : decode cX11_never 44 = .ok (.ishl, 1) := by decide +kernel
theorem dX11_never_45 : decode cX11_never 45 = .ok (.ior, 1) := by decide +kernel
theorem dX11_never_46 : decode cX11_never 46 = .ok (.istore_n 1, 1) := by decide +kernel
theorem dX11_never_47 : decode cX11_never 47 = .ok (.iinc 2 1, 3) := by decide +kernel
theorem dX11_never_50 : decode cX11_never 50 = .ok (.goto (-39), 3) := by decide +kernel
theorem dX11_never_53 : decode cX11_never 53 = .ok (.iload_n 1, 1) := by decide +kernel
theorem dX11_never_54 : decode cX11_never 54 = .ok (.ireturn, 1) := by decide +kernel
set_option maxRecDepth 20000 in
theorem ggX11_kindness_X11_canForesee : GoodIn wsX11_kindness wsX11_canForesee := goodIn_r _ [6, 7, 8, 9, 10, 11, 12, 13, 14, 100, 101, 102, 103, 104, 105, 106, 107, 108, 109, 110, 111, 112, 113, 114, 115, 116, 117, 118, 119, 120, 121, 122, 123, 124, 125, 126, 127, 128, 129, 130, 131, 132, 133, 134, 135, 136, 137, 138, 139, 140] rfl (by decide +kernel)
set_option maxRecDepth 20000 in
theorem gX11_kindness_X11_canForesee : GoodIn wsX11_kindness (wsV RX11 182 RX11 yX11_canForesee wsX11_canForesee) := goodIn_app (goodIn_r _ [2, 3, 4, 5] rfl (by decide +kernel)) ggX11_kindness_X11_canForesee
set_option maxRecDepth 20000 in
theorem ggX11_kindness_X3_seesWithKindness : GoodIn wsX11_kindness wsX3_seesWithKindness := goodIn_r _ [19, 20, 21, 22, 23, 24, 25, 26, 27, 28, 29, 30, 31, 32, 33, 34, 35, 36, 37, 38, 39, 40, 41, 42, 43, 44, 45, 46, 47, 48, 18, 49, 50, 51, 52, 12, 53, 54, 55, 56, 57, 58, 59, 60, 61, 62, 63, 64, 65, 66, 67, 68, 69, 70, 71, 72, 73, 74, 75, 76, 77, 78, 79, 80, 81, 82, 83, 84, 85, 86, 87, 88, 89, 90, 91, 92, 93, 94, 95, 96, 97, 98, 99, 141, 142, 143, 144, 145, 114, 115, 116, 117, 118, 119, 120, 121, 122, 123, 124, 125, 126, 127, 128, 129, 130, 131, 132, 133, 134, 135, 136, 137, 138, 139, 140, 146, 147, 148, 149, 150, 151, 152, 153, 154, 155, 156, 157, 158, 159] rfl (by decide +kernel)
set_option maxRecDepth 20000 in
theorem gX11_kindness_X3_seesWithKindness : GoodIn wsX11_kindness (wsV RX11 277 RX3 yX3_seesWithKindness wsX3_seesWithKindness) := goodIn_app (goodIn_r _ [15, 16, 17, 18] rfl (by decide +kernel)) ggX11_kindness_X3_seesWithKindness
theorem dX11_kindness_0 : decode cX11_kindness 0 = .ok (.aload_n 0, 1) := by decide +kernel
theorem dX11_kindness_1 : decode cX11_kindness 1 = .ok (.iload_n 1, 1) := by decide +kernel
theorem dX11_kindness_2 : decode cX11_kindness 2 = .ok (.iload_n 2, 1) := by decide +kernel
theorem dX11_kindness_3 : decode cX11_kindness 3 = .ok (.invokevirtual 182, 3) := by decide +kernel
theorem dX11_kindness_6 : decode cX11_kindness 6 = .ok (.ifCond .ne 5, 3) := by decide +kernel
theorem dX11_kindness_9 : decode cX11_kindness 9 = .ok (.iconst (-1), 1) := by decide +kernel
theorem dX11_kindness_10 : decode cX11_kindness 10 = .ok (.ireturn, 1) := by decide +kernel
theorem dX11_kindness_11 : decode cX11_kindness 11 = .ok (.iconst 0, 1) := by decide +kernel
theorem dX11_kindness_12 : decode cX11_kindness 12 = .ok (.istore_n 3, 1) := by decide +kernel
theorem dX11_kindness_13 : decode cX11_kindness 13 = .ok (.iload_n 3, 1) := by decide +kernel
theorem dX11_kindness_14 : decode cX11_kindness 14 = .ok (.bipush 9, 2) := by decide +kernel
theorem dX11_kindness_16 : decode cX11_kindness 16 = .ok (.if_icmp .gt 24, 3) := by decide +kernel
theorem dX11_kindness_19 : decode cX11_kindness 19 = .ok (.aload_n 0, 1) := by decide +kernel
theorem dX11_kindness_20 : decode cX11_kindness 20 = .ok (.getfield 59, 3) := by decide +kernel
theorem dX11_kindness_23 : decode cX11_kindness 23 = .ok (.iload_n 1, 1) := by decide +kernel
theorem dX11_kindness_24 : decode cX11_kindness 24 = .ok (.iload_n 2, 1) := by decide +kernel
theorem dX11_kindness_25 : decode cX11_kindness 25 = .ok (.iload_n 3, 1) := by decide +kernel
theorem dX11_kindness_26 : decode cX11_kindness 26 = .ok (.invokevirtual 277, 3) := by decide +kernel
theorem dX11_kindness_29 : decode cX11_kindness 29 = .ok (.ifCond .eq 5, 3) := by decide +kernel
theorem dX11_kindness_32 : decode cX11_kindness 32 = .ok (.iload_n 3, 1) := by decide +kernel
theorem dX11_kindness_33 : decode cX11_kindness 33 = .ok (.ireturn, 1) := by decide +kernel
theorem dX11_kindness_34 : decode cX11_kindness 34 = .ok (.iinc 3 1, 3) := by decide +kernel
theorem dX11_kindness_37 : decode cX11_kindness 37 = .ok (.goto (-24), 3) := by decide +kernel
theorem dX11_kindness_40 : decode cX11_kindness 40 = .ok (.bipush (-2), 2) := by decide +kernel
theorem dX11_kindness_42 : decode cX11_kindness 42 = .ok (.ireturn, 1) := by decide +kernel
set_option maxRecDepth 20000 in
theorem ggX11_winter_X11_isShare : GoodIn wsX11_winter wsX11_isShare := goodIn_r _ [7, 2, 99, 100, 101, 102, 103, 104, 105, 106, 107, 108, 109, 110, 111, 112, 113, 114, 115, 116, 117, 118, 119, 120, 121, 122, 123, 124, 125, 126, 127] rfl (by decide +kernel)
set_option maxRecDepth 20000 in
theorem gX11_winter_X11_isShare : GoodIn wsX11_winter (wsV RX11 281 RX11 yX11_isShare wsX11_isShare) := goodIn_app (goodIn_r _ [3, 4, 5, 6] rfl (by decide +kernel)) ggX11_winter_X11_isShare
set_option maxRecDepth 20000 in
theorem ggX11_winter_X3_countNights : GoodIn wsX11_winter wsX3_countNights := goodIn_r _ [12, 13, 14, 15, 16, 17, 18, 11, 19, 20, 21, 22, 23, 24, 25, 26, 27, 28, 29, 30, 31, 32, 33, 34, 35, 36, 37, 38, 39, 40, 41, 42, 43, 44, 45, 46, 47, 48, 49, 50, 51, 52, 53, 54, 55, 56, 57, 58, 59, 60, 61, 62, 63, 64, 65, 66, 67, 68, 69, 70, 71, 72, 73, 74, 75, 76, 77, 78, 79, 80, 81, 82, 83, 84, 85, 86, 87, 88, 89, 90, 91, 92, 93, 94, 95, 96, 97, 98, 128, 129, 130, 131, 132, 113, 114, 115, 116, 117, 118, 119, 120, 121, 122, 123, 124, 125, 126, 127, 133, 134, 135, 136, 137, 138, 139, 140, 141, 142, 143, 144, 145, 146, 147, 148, 149, 150, 151, 152, 153, 154, 155, 156, 157, 158] rfl (by decide +kernel)
set_option maxRecDepth 20000 in
theorem gX11_winter_X3_countNights : GoodIn wsX11_winter (wsV RX11 284 RX3 yX3_countNights wsX3_countNights) := goodIn_app (goodIn_r _ [8, 9, 10, 11] rfl (by decide +kernel)) ggX11_winter_X3_countNights
theorem dX11_winter_0 : decode cX11_winter 0 = .ok (.aload_n 0, 1) := by decide +kernel
theorem dX11_winter_1 : decode cX11_winter 1 = .ok (.iload_n 1, 1) := by decide +kernel
theorem dX11_winter_2 : decode cX11_winter 2 = .ok (.invokevirtual 281, 3) := by decide +kernel
theorem dX11_winter_5 : decode cX11_winter 5 = .ok (.ifCond .eq 12, 3) := by decide +kernel
theorem dX11_winter_8 : decode cX11_winter 8 = .ok (.iload_n 2, 1) := by decide +kernel
theorem dX11_winter_9 : decode cX11_winter 9 = .ok (.ifCond .lt 8, 3) := by decide +kernel
theorem dX11_winter_12 : decode cX11_winter 12 = .ok (.iload_n 2, 1) := by decide +kernel
theorem dX11_winter_13 : decode cX11_winter 13 = .ok (.iconst 1, 1) := by decide +kernel
theorem dX11_winter_14 : decode cX11_winter 14 = .ok (.if_icmp .le 5, 3) := by decide +kernel
theorem dX11_winter_17 : decode cX11_winter 17 = .ok (.iconst (-1), 1) := by decide +kernel
theorem dX11_winter_18 : decode cX11_winter 18 = .ok (.ireturn, 1) := by decide +kernel
theorem dX11_winter_19 : decode cX11_winter 19 = .ok (.aload_n 0, 1) := by decide +kernel
theorem dX11_winter_20 : decode cX11_winter 20 = .ok (.getfield 59, 3) := by decide +kernel
theorem dX11_winter_23 : decode cX11_winter 23 = .ok (.iload_n 1, 1) := by decide +kernel
theorem dX11_winter_24 : decode cX11_winter 24 = .ok (.invokevirtual 284, 3) := by decide +kernel
theorem dX11_winter_27 : decode cX11_winter 27 = .ok (.iconst 0, 1) := by decide +kernel
theorem dX11_winter_28 : decode cX11_winter 28 = .ok (.istore_n 3, 1) := by decide +kernel
theorem dX11_winter_29 : decode cX11_winter 29 = .ok (.iconst 1, 1) := by decide +kernel
theorem dX11_winter_30 : decode cX11_winter 30 = .ok (.istore 4, 2) := by decide +kernel
theorem dX11_winter_32 : decode cX11_winter 32 = .ok (.iload 4, 2) := by decide +kernel
theorem dX11_winter_34 : decode cX11_winter 34 = .ok (.aload_n 0, 1) := by decide +kernel
theorem dX11_winter_35 : decode cX11_winter 35 = .ok (.getfield 28, 3) := by decide +kernel
theorem dX11_winter_38 : decode cX11_winter 38 = .ok (.getfield 274, 3) := by decide +kernel
theorem dX11_winter_41 : decode cX11_winter 41 = .ok (.if_icmp .ge 41, 3) := by decide +kernel
theorem dX11_winter_44 : decode cX11_winter 44 = .ok (.iload 4, 2) := by decide +kernel
theorem dX11_winter_46 : decode cX11_winter 46 = .ok (.bipush 8, 2) := by decide +kernel
theorem dX11_winter_48 : decode cX11_winter 48 = .ok (.if_icmp .ge 34, 3) := by decide +kernel
theorem dX11_winter_51 : decode cX11_winter 51 = .ok (.aload_n 0, 1) := by decide +kernel
theorem dX11_winter_52 : decode cX11_winter 52 = .ok (.getfield 59, 3) := by decide +kernel
theorem dX11_winter_55 : decode cX11_winter 55 = .ok (.getfield 287, 3) := by decide +kernel
theorem dX11_winter_58 : decode cX11_winter 58 = .ok (.iload 4, 2) := by decide +kernel
theorem dX11_winter_60 : decode cX11_winter 60 = .ok (.iaload, 1) := by decide +kernel
theorem dX11_winter_61 : decode cX11_winter 61 = .ok (.aload_n 0, 1) := by decide +kernel
theorem dX11_winter_62 : decode cX11_winter 62 = .ok (.getfield 59, 3) := by decide +kernel
theorem dX11_winter_65 : decode cX11_winter 65 = .ok (.getfield 287, 3) := by decide +kernel
theorem dX11_winter_68 : decode cX11_winter 68 = .ok (.iload_n 3, 1) := by decide +kernel
theorem dX11_winter_69 : decode cX11_winter 69 = .ok (.iaload, 1) := by decide +kernel
theorem dX11_winter_70 : decode cX11_winter 70 = .ok (.if_icmp .le 6, 3) := by decide +kernel
theorem dX11_winter_73 : decode cX11_winter 73 = .ok (.iload 4, 2) := by decide +kernel
theorem dX11_winter_75 : decode cX11_winter 75 = .ok (.istore_n 3, 1) := by decide +kernel
theorem dX11_winter_76 : decode cX11_winter 76 = .ok (.iinc 4 1, 3) := by decide +kernel
theorem dX11_winter_79 : decode cX11_winter 79 = .ok (.goto (-47), 3) := by decide +kernel
theorem dX11_winter_82 : decode cX11_winter 82 = .ok (.iload_n 2, 1) := by decide +kernel
theorem dX11_winter_83 : decode cX11_winter 83 = .ok (.ifCond .ne 7, 3) := by decide +kernel
theorem dX11_winter_86 : decode cX11_winter 86 = .ok (.iload_n 3, 1) := by decide +kernel
theorem dX11_winter_87 : decode cX11_winter 87 = .ok (.goto 12, 3) := by decide +kernel
theorem dX11_winter_90 : decode cX11_winter 90 = .ok (.aload_n 0, 1) := by decide +kernel
theorem dX11_winter_91 : decode cX11_winter 91 = .ok (.getfield 59, 3) := by decide +kernel
theorem dX11_winter_94 : decode cX11_winter 94 = .ok (.getfield 287, 3) := by decide +kernel
theorem dX11_winter_97 : decode cX11_winter 97 = .ok (.iload_n 3, 1) := by decide +kernel
theorem dX11_winter_98 : decode cX11_winter 98 = .ok (.iaload, 1) := by decide +kernel
theorem dX11_winter_99 : decode cX11_winter 99 = .ok (.ireturn, 1) := by decide +kernel
set_option maxRecDepth 20000 in
theorem ggX11_copies_X11_commonPart : GoodIn wsX11_copies wsX11_commonPart := goodIn_r _ [6] rfl (by decide +kernel)
set_option maxRecDepth 20000 in
theorem gX11_copies_X11_commonPart : GoodIn wsX11_copies (va_wsS RX11 295 yX11_commonPart wsX11_commonPart) := goodIn_app (goodIn_of _ (by decide +kernel)) ggX11_copies_X11_commonPart
theorem dX11_copies_0 : decode cX11_copies 0 = .ok (.iload_n 1, 1) := by decide +kernel
theorem dX11_copies_1 : decode cX11_copies 1 = .ok (.iconst 1, 1) := by decide +kernel
theorem dX11_copies_2 : decode cX11_copies 2 = .ok (.if_icmp .lt 18, 3) := by decide +kernel
theorem dX11_copies_5 : decode cX11_copies 5 = .ok (.iload_n 1, 1) := by decide +kernel
theorem dX11_copies_6 : decode cX11_copies 6 = .ok (.bipush 8, 2) := by decide +kernel
theorem dX11_copies_8 : decode cX11_copies 8 = .ok (.if_icmp .gt 12, 3) := by decide +kernel
theorem dX11_copies_11 : decode cX11_copies 11 = .ok (.iload_n 2, 1) := by decide +kernel
theorem dX11_copies_12 : decode cX11_copies 12 = .ok (.ifCond .lt 8, 3) := by decide +kernel
theorem dX11_copies_15 : decode cX11_copies 15 = .ok (.iload_n 2, 1) := by decide +kernel
theorem dX11_copies_16 : decode cX11_copies 16 = .ok (.iconst 1, 1) := by decide +kernel
theorem dX11_copies_17 : decode cX11_copies 17 = .ok (.if_icmp .le 7, 3) := by decide +kernel
theorem dX11_copies_20 : decode cX11_copies 20 = .ok (.ldc2_w 290, 3) := by decide +kernel
theorem dX11_copies_23 : decode cX11_copies 23 = .ok (.lreturn, 1) := by decide +kernel
theorem dX11_copies_24 : decode cX11_copies 24 = .ok (.aload_n 0, 1) := by decide +kernel
theorem dX11_copies_25 : decode cX11_copies 25 = .ok (.getfield 28, 3) := by decide +kernel
theorem dX11_copies_28 : decode cX11_copies 28 = .ok (.getfield 292, 3) := by decide +kernel
theorem dX11_copies_31 : decode cX11_copies 31 = .ok (.bipush 100, 2) := by decide +kernel
theorem dX11_copies_33 : decode cX11_copies 33 = .ok (.invokestatic 295, 3) := by decide +kernel
theorem dX11_copies_36 : decode cX11_copies 36 = .ok (.istore_n 3, 1) := by decide +kernel
theorem dX11_copies_37 : decode cX11_copies 37 = .ok (.iload_n 2, 1) := by decide +kernel
theorem dX11_copies_38 : decode cX11_copies 38 = .ok (.ifCond .ne 16, 3) := by decide +kernel
theorem dX11_copies_41 : decode cX11_copies 41 = .ok (.aload_n 0, 1) := by decide +kernel
theorem dX11_copies_42 : decode cX11_copies 42 = .ok (.getfield 28, 3) := by decide +kernel
theorem dX11_copies_45 : decode cX11_copies 45 = .ok (.getfield 292, 3) := by decide +kernel
theorem dX11_copies_48 : decode cX11_copies 48 = .ok (.iload_n 3, 1) := by decide +kernel
theorem dX11_copies_49 : decode cX11_copies 49 = .ok (.idiv, 1) := by decide +kernel
theorem dX11_copies_50 : decode cX11_copies 50 = .ok (.i2l, 1) := by decide +kernel
theorem dX11_copies_51 : decode cX11_copies 51 = .ok (.goto 8, 3) := by decide +kernel
theorem dX11_copies_54 : decode cX11_copies 54 = .ok (.bipush 100, 2) := by decide +kernel
theorem dX11_copies_56 : decode cX11_copies 56 = .ok (.iload_n 3, 1) := by decide +kernel
theorem dX11_copies_57 : decode cX11_copies 57 = .ok (.idiv, 1) := by decide +kernel
theorem dX11_copies_58 : decode cX11_copies 58 = .ok (.i2l, 1) := by decide +kernel
theorem dX11_copies_59 : decode cX11_copies 59 = .ok (.lstore 4, 2) := by decide +kernel
theorem dX11_copies_61 : decode cX11_copies 61 = .ok (.lconst 1, 1) := by decide +kernel
theorem dX11_copies_62 : decode cX11_copies 62 = .ok (.lstore 6, 2) := by decide +kernel
theorem dX11_copies_64 : decode cX11_copies 64 = .ok (.iconst 0, 1) := by decide +kernel
theorem dX11_copies_65 : decode cX11_copies 65 = .ok (.istore 8, 2) := by decide +kernel
theorem dX11_copies_67 : decode cX11_copies 67 = .ok (.iload 8, 2) := by decide +kernel
theorem dX11_copies_69 : decode cX11_copies 69 = .ok (.iload_n 1, 1) := by decide +kernel
theorem dX11_copies_70 : decode cX11_copies 70 = .ok (.if_icmp .ge 16, 3) := by decide +kernel
theorem dX11_copies_73 : decode cX11_copies 73 = .ok (.lload 6, 2) := by decide +kernel
theorem dX11_copies_75 : decode cX11_copies 75 = .ok (.lload 4, 2) := by decide +kernel
theorem dX11_copies_77 : decode cX11_copies 77 = .ok (.lmul, 1) := by decide +kernel
theorem dX11_copies_78 : decode cX11_copies 78 = .ok (.lstore 6, 2) := by decide +kernel
theorem dX11_copies_80 : decode cX11_copies 80 = .ok (.iinc 8 1, 3) := by decide +kernel
theorem dX11_copies_83 : decode cX11_copies 83 = .ok (.goto (-16), 3) := by decide +kernel
theorem dX11_copies_86 : decode cX11_copies 86 = .ok (.lload 6, 2) := by decide +kernel
theorem dX11_copies_88 : decode cX11_copies 88 = .ok (.lreturn, 1) := by decide +kernel
set_option maxRecDepth 20000 in
theorem ggX11_bids_X10_countLanes : GoodIn wsX11_bids wsX10_countLanes := goodIn_r _ [7, 8, 9, 10, 11, 12, 6, 13, 14, 15, 16, 17, 18, 19, 20, 21, 22, 23, 24, 25, 26, 27, 28, 29, 148, 149, 150, 151, 152, 153, 154, 133, 134, 135, 136, 137, 138, 139, 140, 141, 142, 143, 144, 145, 146, 147, 155, 156, 157, 158, 159, 160, 161, 162, 163, 164, 165, 166] rfl (by decide +kernel)
set_option maxRecDepth 20000 in
theorem gX11_bids_X10_countLanes : GoodIn wsX11_bids (wsV RX11 298 RX10 yX10_countLanes wsX10_countLanes) := goodIn_app (goodIn_r _ [3, 4, 5, 6] rfl (by decide +kernel)) ggX11_bids_X10_countLanes
set_option maxRecDepth 20000 in
theorem ggX11_bids_X11_bidOf : GoodIn wsX11_bids wsX11_bidOf := goodIn_r _ [34, 2, 35, 36, 37, 38, 39, 40, 41, 42, 43, 44, 45, 46, 47, 48, 49, 50, 51, 52, 53, 54, 55, 56, 57, 58, 59, 60, 61, 62, 63, 64, 65, 66, 67, 68, 69, 70, 71, 72, 73, 74, 75, 22, 76, 77, 78, 79, 80, 81, 82, 83, 84, 85, 86, 87, 88, 89, 90, 91, 92, 93, 94, 95, 96, 97, 98, 99, 100, 101, 102, 103, 104, 105, 106, 107, 108, 109, 110, 111, 112, 113, 114, 115, 116, 117, 118, 119, 120, 121, 122, 123, 124, 125, 126, 127, 128, 129, 130, 131, 132, 148, 149, 150, 151, 152, 153, 154, 155, 156, 157, 158, 159, 160, 161, 162, 163, 164, 165, 166, 167, 168, 169, 170, 171, 133, 134, 135, 136, 137, 138, 139, 140, 141, 142, 143, 144, 145, 146, 147, 172, 173, 174, 175, 176, 177, 178, 179, 180, 181, 182, 183, 184, 185] rfl (by decide +kernel)
set_option maxRecDepth 20000 in
theorem gX11_bids_X11_bidOf : GoodIn wsX11_bids (wsV RX11 301 RX11 yX11_bidOf wsX11_bidOf) := goodIn_app (goodIn_r _ [30, 31, 32, 33] rfl (by decide +kernel)) ggX11_bids_X11_bidOf
theorem dX11_bids_0 : decode cX11_bids 0 = .ok (.aload_n 0, 1) := by decide +kernel
theorem dX11_bids_1 : decode cX11_bids 1 = .ok (.getfield 28, 3) := by decide +kernel
theorem dX11_bids_4 : decode cX11_bids 4 = .ok (.getfield 274, 3) := by decide +kernel
theorem dX11_bids_7 : decode cX11_bids 7 = .ok (.ifCond .eq 12, 3) := by decide +kernel
theorem dX11_bids_10 : decode cX11_bids 10 = .ok (.iload_n 1, 1) := by decide +kernel
theorem dX11_bids_11 : decode cX11_bids 11 = .ok (.ifCond .lt 8, 3) := by decide +kernel
theorem dX11_bids_14 : decode cX11_bids 14 = .ok (.iload_n 1, 1) := by decide +kernel
theorem dX11_bids_15 : decode cX11_bids 15 = .ok (.iconst 1, 1) := by decide +kernel
theorem dX11_bids_16 : decode cX11_bids 16 = .ok (.if_icmp .le 5, 3) := by decide +kernel
theorem dX11_bids_19 : decode cX11_bids 19 = .ok (.iconst (-1), 1) := by decide +kernel
theorem dX11_bids_20 : decode cX11_bids 20 = .ok (.ireturn, 1) := by decide +kernel
theorem dX11_bids_21 : decode cX11_bids 21 = .ok (.aload_n 0, 1) := by decide +kernel
theorem dX11_bids_22 : decode cX11_bids 22 = .ok (.getfield 75, 3) := by decide +kernel
theorem dX11_bids_25 : decode cX11_bids 25 = .ok (.invokevirtual 298, 3) := by decide +kernel
theorem dX11_bids_28 : decode cX11_bids 28 = .ok (.iconst 0, 1) := by decide +kernel
theorem dX11_bids_29 : decode cX11_bids 29 = .ok (.istore_n 2, 1) := by decide +kernel
theorem dX11_bids_30 : decode cX11_bids 30 = .ok (.iconst (-1), 1) := by decide +kernel
theorem dX11_bids_31 : decode cX11_bids 31 = .ok (.istore_n 3, 1) := by decide +kernel
theorem dX11_bids_32 : decode cX11_bids 32 = .ok (.iconst 0, 1) := by decide +kernel
theorem dX11_bids_33 : decode cX11_bids 33 = .ok (.istore 4, 2) := by decide +kernel
theorem dX11_bids_35 : decode cX11_bids 35 = .ok (.iload 4, 2) := by decide +kernel
theorem dX11_bids_37 : decode cX11_bids 37 = .ok (.aload_n 0, 1) := by decide +kernel
theorem dX11_bids_38 : decode cX11_bids 38 = .ok (.getfield 28, 3) := by decide +kernel
theorem dX11_bids_41 : decode cX11_bids 41 = .ok (.getfield 274, 3) := by decide +kernel
theorem dX11_bids_44 : decode cX11_bids 44 = .ok (.if_icmp .ge 36, 3) := by decide +kernel
theorem dX11_bids_47 : decode cX11_bids 47 = .ok (.iload 4, 2) := by decide +kernel
theorem dX11_bids_49 : decode cX11_bids 49 = .ok (.bipush 8, 2) := by decide +kernel
theorem dX11_bids_51 : decode cX11_bids 51 = .ok (.if_icmp .ge 29, 3) := by decide +kernel
theorem dX11_bids_54 : decode cX11_bids 54 = .ok (.aload_n 0, 1) := by decide +kernel
theorem dX11_bids_55 : decode cX11_bids 55 = .ok (.iload 4, 2) := by decide +kernel
theorem dX11_bids_57 : decode cX11_bids 57 = .ok (.invokevirtual 301, 3) := by decide +kernel
theorem dX11_bids_60 : decode cX11_bids 60 = .ok (.istore 5, 2) := by decide +kernel
theorem dX11_bids_62 : decode cX11_bids 62 = .ok (.iload 5, 2) := by decide +kernel
theorem dX11_bids_64 : decode cX11_bids 64 = .ok (.iload_n 3, 1) := by decide +kernel
theorem dX11_bids_65 : decode cX11_bids 65 = .ok (.if_icmp .le 9, 3) := by decide +kernel
theorem dX11_bids_68 : decode cX11_bids 68 = .ok (.iload 4, 2) := by decide +kernel
theorem dX11_bids_70 : decode cX11_bids 70 = .ok (.istore_n 2, 1) := by decide +kernel
theorem dX11_bids_71 : decode cX11_bids 71 = .ok (.iload 5, 2) := by decide +kernel
theorem dX11_bids_73 : decode cX11_bids 73 = .ok (.istore_n 3, 1) := by decide +kernel
theorem dX11_bids_74 : decode cX11_bids 74 = .ok (.iinc 4 1, 3) := by decide +kernel
theorem dX11_bids_77 : decode cX11_bids 77 = .ok (.goto (-42), 3) := by decide +kernel
theorem dX11_bids_80 : decode cX11_bids 80 = .ok (.iload_n 1, 1) := by decide +kernel
theorem dX11_bids_81 : decode cX11_bids 81 = .ok (.ifCond .ne 7, 3) := by decide +kernel
theorem dX11_bids_84 : decode cX11_bids 84 = .ok (.iload_n 2, 1) := by decide +kernel
theorem dX11_bids_85 : decode cX11_bids 85 = .ok (.goto 4, 3) := by decide +kernel
theorem dX11_bids_88 : decode cX11_bids 88 = .ok (.iload_n 3, 1) := by decide +kernel
theorem dX11_bids_89 : decode cX11_bids 89 = .ok (.ireturn, 1) := by decide +kernel
set_option maxRecDepth 20000 in
theorem ggX11_rests_X11_isShare : GoodIn wsX11_rests wsX11_isShare := goodIn_r _ [6, 7, 112, 113, 114, 115, 116, 117, 118, 119, 120, 121, 122, 123, 124, 125, 126, 127, 128, 129, 130, 131, 132, 133, 134, 135, 136, 137, 138, 139, 140] rfl (by decide +kernel)
set_option maxRecDepth 20000 in
theorem gX11_rests_X11_isShare : GoodIn wsX11_rests (wsV RX11 281 RX11 yX11_isShare wsX11_isShare) := goodIn_app (goodIn_r _ [2, 3, 4, 5] rfl (by decide +kernel)) ggX11_rests_X11_isShare
set_option maxRecDepth 20000 in
theorem ggX11_rests_X3_countNights : GoodIn wsX11_rests wsX3_countNights := goodIn_r _ [12, 13, 14, 15, 16, 17, 18, 11, 19, 20, 21, 22, 23, 24, 25, 26, 27, 28, 29, 30, 31, 32, 33, 34, 35, 36, 37, 38, 39, 40, 41, 42, 43, 44, 45, 46, 47, 48, 49, 50, 51, 52, 53, 54, 55, 56, 57, 58, 59, 60, 61, 62, 63, 64, 65, 66, 67, 68, 69, 70, 71, 72, 73, 74, 75, 76, 77, 78, 79, 80, 81, 82, 83, 84, 85, 86, 87, 88, 89, 90, 91, 92, 93, 94, 95, 96, 97, 98, 141, 142, 143, 144, 145, 126, 127, 128, 129, 130, 131, 132, 133, 134, 135, 136, 137, 138, 139, 140, 146, 147, 148, 149, 150, 151, 152, 153, 154, 155, 156, 157, 158, 159, 160, 161, 162, 163, 164, 165, 166, 167, 168, 169, 170, 171] rfl (by decide +kernel)
set_option maxRecDepth 20000 in
theorem gX11_rests_X3_countNights : GoodIn wsX11_rests (wsV RX11 284 RX3 yX3_countNights wsX3_countNights) := goodIn_app (goodIn_r _ [8, 9, 10, 11] rfl (by decide +kernel)) ggX11_rests_X3_countNights
set_option maxRecDepth 20000 in
theorem ggX11_rests_X3_findRests : GoodIn wsX11_rests wsX3_findRests := goodIn_r _ [102, 13, 103, 104, 105, 106, 11, 107, 108, 109, 110, 111, 14, 141, 142, 143, 144, 145, 126, 127, 128, 129, 130, 131, 132, 133, 134, 135, 136, 137, 138, 139, 140] rfl (by decide +kernel)
set_option maxRecDepth 20000 in
theorem gX11_rests_X3_findRests : GoodIn wsX11_rests (wsV RX11 304 RX3 yX3_findRests wsX3_findRests) := goodIn_app (goodIn_r _ [99, 100, 101, 11] rfl (by decide +kernel)) ggX11_rests_X3_findRests
theorem dX11_rests_0 : decode cX11_rests 0 = .ok (.aload_n 0, 1) := by decide +kernel
theorem dX11_rests_1 : decode cX11_rests 1 = .ok (.iload_n 1, 1) := by decide +kernel
theorem dX11_rests_2 : decode cX11_rests 2 = .ok (.invokevirtual 281, 3) := by decide +kernel
theorem dX11_rests_5 : decode cX11_rests 5 = .ok (.ifCond .ne 5, 3) := by decide +kernel
theorem dX11_rests_8 : decode cX11_rests 8 = .ok (.iconst (-1), 1) := by decide +kernel
theorem dX11_rests_9 : decode cX11_rests 9 = .ok (.ireturn, 1) := by decide +kernel
theorem dX11_rests_10 : decode cX11_rests 10 = .ok (.aload_n 0, 1) := by decide +kernel
theorem dX11_rests_11 : decode cX11_rests 11 = .ok (.getfield 59, 3) := by decide +kernel
theorem dX11_rests_14 : decode cX11_rests 14 = .ok (.iload_n 1, 1) := by decide +kernel
theorem dX11_rests_15 : decode cX11_rests 15 = .ok (.invokevirtual 284, 3) := by decide +kernel
theorem dX11_rests_18 : decode cX11_rests 18 = .ok (.aload_n 0, 1) := by decide +kernel
theorem dX11_rests_19 : decode cX11_rests 19 = .ok (.getfield 59, 3) := by decide +kernel
theorem dX11_rests_22 : decode cX11_rests 22 = .ok (.invokevirtual 304, 3) := by decide +kernel
theorem dX11_rests_25 : decode cX11_rests 25 = .ok (.ireturn, 1) := by decide +kernel
set_option maxRecDepth 20000 in
theorem ggX11_rest_X11_isShare : GoodIn wsX11_rest wsX11_isShare := goodIn_r _ [6, 7, 112, 113, 114, 115, 116, 117, 118, 119, 120, 121, 122, 123, 124, 125, 131, 132, 133, 134, 135, 136, 137, 138, 139, 140, 141, 142, 143, 144, 145] rfl (by decide +kernel)
set_option maxRecDepth 20000 in
theorem gX11_rest_X11_isShare : GoodIn wsX11_rest (wsV RX11 281 RX11 yX11_isShare wsX11_isShare) := goodIn_app (goodIn_r _ [2, 3, 4, 5] rfl (by decide +kernel)) ggX11_rest_X11_isShare
set_option maxRecDepth 20000 in
theorem ggX11_rest_X3_countNights : GoodIn wsX11_rest wsX3_countNights := goodIn_r _ [12, 13, 14, 15, 16, 17, 18, 11, 19, 20, 21, 22, 23, 24, 25, 26, 27, 28, 29, 30, 31, 32, 33, 34, 35, 36, 37, 38, 39, 40, 41, 42, 43, 44, 45, 46, 47, 48, 49, 50, 51, 52, 53, 54, 55, 56, 57, 58, 59, 60, 61, 62, 63, 64, 65, 66, 67, 68, 69, 70, 71, 72, 73, 74, 75, 76, 77, 78, 79, 80, 81, 82, 83, 84, 85, 86, 87, 88, 89, 90, 91, 92, 93, 94, 95, 96, 97, 98, 126, 127, 128, 129, 130, 131, 132, 133, 134, 135, 136, 137, 138, 139, 140, 141, 142, 143, 144, 145, 146, 147, 148, 149, 150, 151, 152, 153, 154, 155, 156, 157, 158, 159, 160, 161, 162, 163, 164, 165, 166, 167, 168, 169, 170, 171] rfl (by decide +kernel)
set_option maxRecDepth 20000 in
theorem gX11_rest_X3_countNights : GoodIn wsX11_rest (wsV RX11 284 RX3 yX3_countNights wsX3_countNights) := goodIn_app (goodIn_r _ [8, 9, 10, 11] rfl (by decide +kernel)) ggX11_rest_X3_countNights
set_option maxRecDepth 20000 in
theorem ggX11_rest_X3_findRests : GoodIn wsX11_rest wsX3_findRests := goodIn_r _ [102, 13, 103, 104, 105, 106, 11, 107, 108, 109, 110, 111, 14, 126, 127, 128, 129, 130, 131, 132, 133, 134, 135, 136, 137, 138, 139, 140, 141, 142, 143, 144, 145] rfl (by decide +kernel)
set_option maxRecDepth 20000 in
theorem gX11_rest_X3_findRests : GoodIn wsX11_rest (wsV RX11 304 RX3 yX3_findRests wsX3_findRests) := goodIn_app (goodIn_r _ [99, 100, 101, 11] rfl (by decide +kernel)) ggX11_rest_X3_findRests
theorem dX11_rest_0 : decode cX11_rest 0 = .ok (.aload_n 0, 1) := by decide +kernel
theorem dX11_rest_1 : decode cX11_rest 1 = .ok (.iload_n 1, 1) := by decide +kernel
theorem dX11_rest_2 : decode cX11_rest 2 = .ok (.invokevirtual 281, 3) := by decide +kernel
theorem dX11_rest_5 : decode cX11_rest 5 = .ok (.ifCond .eq 7, 3) := by decide +kernel
theorem dX11_rest_8 : decode cX11_rest 8 = .ok (.iload_n 2, 1) := by decide +kernel
theorem dX11_rest_9 : decode cX11_rest 9 = .ok (.ifCond .ge 5, 3) := by decide +kernel
theorem dX11_rest_12 : decode cX11_rest 12 = .ok (.iconst (-1), 1) := by decide +kernel
theorem dX11_rest_13 : decode cX11_rest 13 = .ok (.ireturn, 1) := by decide +kernel
theorem dX11_rest_14 : decode cX11_rest 14 = .ok (.aload_n 0, 1) := by decide +kernel
theorem dX11_rest_15 : decode cX11_rest 15 = .ok (.getfield 59, 3) := by decide +kernel
theorem dX11_rest_18 : decode cX11_rest 18 = .ok (.iload_n 1, 1) := by decide +kernel
theorem dX11_rest_19 : decode cX11_rest 19 = .ok (.invokevirtual 284, 3) := by decide +kernel
theorem dX11_rest_22 : decode cX11_rest 22 = .ok (.iload_n 2, 1) := by decide +kernel
theorem dX11_rest_23 : decode cX11_rest 23 = .ok (.aload_n 0, 1) := by decide +kernel
theorem dX11_rest_24 : decode cX11_rest 24 = .ok (.getfield 59, 3) := by decide +kernel
theorem dX11_rest_27 : decode cX11_rest 27 = .ok (.invokevirtual 304, 3) := by decide +kernel
theorem dX11_rest_30 : decode cX11_rest 30 = .ok (.if_icmp .ge 15, 3) := by decide +kernel
theorem dX11_rest_33 : decode cX11_rest 33 = .ok (.aload_n 0, 1) := by decide +kernel
theorem dX11_rest_34 : decode cX11_rest 34 = .ok (.getfield 59, 3) := by decide +kernel
theorem dX11_rest_37 : decode cX11_rest 37 = .ok (.getfield 307, 3) := by decide +kernel
theorem dX11_rest_40 : decode cX11_rest 40 = .ok (.iload_n 2, 1) := by decide +kernel
theorem dX11_rest_41 : decode cX11_rest 41 = .ok (.iaload, 1) := by decide +kernel
theorem dX11_rest_42 : decode cX11_rest 42 = .ok (.goto 5, 3) := by decide +kernel
theorem dX11_rest_45 : decode cX11_rest 45 = .ok (.bipush (-2), 2) := by decide +kernel
theorem dX11_rest_47 : decode cX11_rest 47 = .ok (.ireturn, 1) := by decide +kernel
set_option maxRecDepth 20000 in
theorem ggX11_note_X0_hasBay : GoodIn wsX11_note wsX0_hasBay := goodIn_r _ [7, 8, 42, 43, 44, 45, 46, 47, 48, 49, 50, 51, 52, 53, 54, 55, 56] rfl (by decide +kernel)
set_option maxRecDepth 20000 in
theorem gX11_note_X0_hasBay : GoodIn wsX11_note (wsV RX11 135 RX0 yX0_hasBay wsX0_hasBay) := goodIn_app (goodIn_r _ [3, 4, 5, 6] rfl (by decide +kernel)) ggX11_note_X0_hasBay
set_option maxRecDepth 20000 in
theorem ggX11_note_X6_addSight : GoodIn wsX11_note wsX6_addSight := goodIn_r _ [13, 14, 15, 16, 17, 18, 33, 34, 35, 36, 37, 38, 39, 40, 41] rfl (by decide +kernel)
set_option maxRecDepth 20000 in
theorem gX11_note_X6_addSight : GoodIn wsX11_note (wsV RX11 311 RX6 yX6_addSight wsX6_addSight) := goodIn_app (goodIn_r _ [9, 10, 11, 12] rfl (by decide +kernel)) ggX11_note_X6_addSight
theorem dX11_note_0 : decode cX11_note 0 = .ok (.aload_n 0, 1) := by decide +kernel
theorem dX11_note_1 : decode cX11_note 1 = .ok (.getfield 28, 3) := by decide +kernel
theorem dX11_note_4 : decode cX11_note 4 = .ok (.iload_n 1, 1) := by decide +kernel
theorem dX11_note_5 : decode cX11_note 5 = .ok (.invokevirtual 135, 3) := by decide +kernel
theorem dX11_note_8 : decode cX11_note 8 = .ok (.ifCond .eq 25, 3) := by decide +kernel
theorem dX11_note_11 : decode cX11_note 11 = .ok (.iload_n 2, 1) := by decide +kernel
theorem dX11_note_12 : decode cX11_note 12 = .ok (.ifCond .lt 21, 3) := by decide +kernel
theorem dX11_note_15 : decode cX11_note 15 = .ok (.iload_n 2, 1) := by decide +kernel
theorem dX11_note_16 : decode cX11_note 16 = .ok (.bipush 99, 2) := by decide +kernel
theorem dX11_note_18 : decode cX11_note 18 = .ok (.if_icmp .gt 15, 3) := by decide +kernel
theorem dX11_note_21 : decode cX11_note 21 = .ok (.aload_n 0, 1) := by decide +kernel
theorem dX11_note_22 : decode cX11_note 22 = .ok (.getfield 84, 3) := by decide +kernel
theorem dX11_note_25 : decode cX11_note 25 = .ok (.getfield 310, 3) := by decide +kernel
theorem dX11_note_28 : decode cX11_note 28 = .ok (.bipush 24, 2) := by decide +kernel
theorem dX11_note_30 : decode cX11_note 30 = .ok (.if_icmp .lt 5, 3) := by decide +kernel
theorem dX11_note_33 : decode cX11_note 33 = .ok (.iconst (-1), 1) := by decide +kernel
theorem dX11_note_34 : decode cX11_note 34 = .ok (.ireturn, 1) := by decide +kernel
theorem dX11_note_35 : decode cX11_note 35 = .ok (.aload_n 0, 1) := by decide +kernel
theorem dX11_note_36 : decode cX11_note 36 = .ok (.getfield 84, 3) := by decide +kernel
theorem dX11_note_39 : decode cX11_note 39 = .ok (.iload_n 1, 1) := by decide +kernel
theorem dX11_note_40 : decode cX11_note 40 = .ok (.iload_n 2, 1) := by decide +kernel
theorem dX11_note_41 : decode cX11_note 41 = .ok (.iload_n 3, 1) := by decide +kernel
theorem dX11_note_42 : decode cX11_note 42 = .ok (.invokevirtual 311, 3) := by decide +kernel
theorem dX11_note_45 : decode cX11_note 45 = .ok (.ireturn, 1) := by decide +kernel
set_option maxRecDepth 20000 in
theorem ggX11_out_X6_addStrike : GoodIn wsX11_out wsX6_addStrike := goodIn_r _ [6, 7, 8, 9, 10, 5, 11, 12, 13, 14, 15, 30, 31, 32, 33, 34, 35, 36, 37, 38] rfl (by decide +kernel)
set_option maxRecDepth 20000 in
theorem gX11_out_X6_addStrike : GoodIn wsX11_out (wsV RX11 315 RX6 yX6_addStrike wsX6_addStrike) := goodIn_app (goodIn_r _ [2, 3, 4, 5] rfl (by decide +kernel)) ggX11_out_X6_addStrike
theorem dX11_out_0 : decode cX11_out 0 = .ok (.iload_n 1, 1) := by decide +kernel
theorem dX11_out_1 : decode cX11_out 1 = .ok (.ifCond .lt 26, 3) := by decide +kernel
theorem dX11_out_4 : decode cX11_out 4 = .ok (.iload_n 1, 1) := by decide +kernel
theorem dX11_out_5 : decode cX11_out 5 = .ok (.aload_n 0, 1) := by decide +kernel
theorem dX11_out_6 : decode cX11_out 6 = .ok (.getfield 84, 3) := by decide +kernel
theorem dX11_out_9 : decode cX11_out 9 = .ok (.getfield 310, 3) := by decide +kernel
theorem dX11_out_12 : decode cX11_out 12 = .ok (.if_icmp .ge 15, 3) := by decide +kernel
theorem dX11_out_15 : decode cX11_out 15 = .ok (.aload_n 0, 1) := by decide +kernel
theorem dX11_out_16 : decode cX11_out 16 = .ok (.getfield 84, 3) := by decide +kernel
theorem dX11_out_19 : decode cX11_out 19 = .ok (.getfield 310, 3) := by decide +kernel
theorem dX11_out_22 : decode cX11_out 22 = .ok (.bipush 24, 2) := by decide +kernel
theorem dX11_out_24 : decode cX11_out 24 = .ok (.if_icmp .lt 5, 3) := by decide +kernel
theorem dX11_out_27 : decode cX11_out 27 = .ok (.iconst (-1), 1) := by decide +kernel
theorem dX11_out_28 : decode cX11_out 28 = .ok (.ireturn, 1) := by decide +kernel
theorem dX11_out_29 : decode cX11_out 29 = .ok (.aload_n 0, 1) := by decide +kernel
theorem dX11_out_30 : decode cX11_out 30 = .ok (.getfield 84, 3) := by decide +kernel
theorem dX11_out_33 : decode cX11_out 33 = .ok (.iload_n 1, 1) := by decide +kernel
theorem dX11_out_34 : decode cX11_out 34 = .ok (.invokevirtual 315, 3) := by decide +kernel
theorem dX11_out_37 : decode cX11_out 37 = .ok (.ireturn, 1) := by decide +kernel
theorem dX11_known_0 : decode cX11_known 0 = .ok (.iload_n 1, 1) := by decide +kernel
theorem dX11_known_1 : decode cX11_known 1 = .ok (.iconst (-1), 1) := by decide +kernel
theorem dX11_known_2 : decode cX11_known 2 = .ok (.if_icmp .lt 14, 3) := by decide +kernel
theorem dX11_known_5 : decode cX11_known 5 = .ok (.iload_n 1, 1) := by decide +kernel
theorem dX11_known_6 : decode cX11_known 6 = .ok (.aload_n 0, 1) := by decide +kernel
theorem dX11_known_7 : decode cX11_known 7 = .ok (.getfield 84, 3) := by decide +kernel
theorem dX11_known_10 : decode cX11_known 10 = .ok (.getfield 310, 3) := by decide +kernel
theorem dX11_known_13 : decode cX11_known 13 = .ok (.if_icmp .le 5, 3) := by decide +kernel
theorem dX11_known_16 : decode cX11_known 16 = .ok (.iconst 0, 1) := by decide +kernel
theorem dX11_known_17 : decode cX11_known 17 = .ok (.ireturn, 1) := by decide +kernel
theorem dX11_known_18 : decode cX11_known 18 = .ok (.aload_n 0, 1) := by decide +kernel
theorem dX11_known_19 : decode cX11_known 19 = .ok (.getfield 84, 3) := by decide +kernel
theorem dX11_known_22 : decode cX11_known 22 = .ok (.iload_n 1, 1) := by decide +kernel
theorem dX11_known_23 : decode cX11_known 23 = .ok (.putfield 318, 3) := by decide +kernel
theorem dX11_known_26 : decode cX11_known 26 = .ok (.iconst 1, 1) := by decide +kernel
theorem dX11_known_27 : decode cX11_known 27 = .ok (.ireturn, 1) := by decide +kernel
set_option maxRecDepth 20000 in
theorem ggX11_was_X0_hasDeed : GoodIn wsX11_was wsX0_hasDeed := goodIn_r _ [7, 8, 125, 126, 127, 128, 129, 130, 131, 132, 133, 134, 135, 136, 137, 138, 139] rfl (by decide +kernel)
set_option maxRecDepth 20000 in
theorem gX11_was_X0_hasDeed : GoodIn wsX11_was (wsV RX11 167 RX0 yX0_hasDeed wsX0_hasDeed) := goodIn_app (goodIn_r _ [3, 4, 5, 6] rfl (by decide +kernel)) ggX11_was_X0_hasDeed
set_option maxRecDepth 20000 in
theorem ggX11_was_X6_joysOf : GoodIn wsX11_was wsX6_joysOf := goodIn_r _ [13, 14, 15, 16, 12, 17, 18, 19, 20, 21, 22, 23, 24, 25, 26, 27, 28, 29, 30, 31, 32, 33, 34, 35, 36, 37, 38, 39, 40, 41, 42, 43, 44, 45, 46, 47, 48, 49, 50, 51, 52, 53, 54, 55, 56, 57, 58, 59, 60, 61, 62, 63, 6, 64, 65, 66, 67, 68, 69, 70, 71, 72, 73, 74, 75, 76, 77, 78, 79, 80, 81, 82, 83, 84, 85, 86, 87, 88, 89, 90, 91, 92, 93, 94, 95, 96, 97, 98, 99, 100, 101, 102, 103, 104, 105, 106, 107, 108, 109, 110, 140, 141, 142, 143, 144, 145, 146, 147, 148, 149, 150, 151, 152, 153, 125, 126, 127, 128, 129, 130, 131, 132, 133, 134, 135, 136, 137, 138, 139, 154, 155, 156, 157, 158, 159, 160, 161, 162, 163, 164, 165, 166, 167] rfl (by decide +kernel)
set_option maxRecDepth 20000 in
theorem gX11_was_X6_joysOf : GoodIn wsX11_was (wsV RX11 321 RX6 yX6_joysOf wsX6_joysOf) := goodIn_app (goodIn_r _ [9, 10, 11, 12] rfl (by decide +kernel)) ggX11_was_X6_joysOf
theorem dX11_was_0 : decode cX11_was 0 = .ok (.aload_n 0, 1) := by decide +kernel
theorem dX11_was_1 : decode cX11_was 1 = .ok (.getfield 28, 3) := by decide +kernel
theorem dX11_was_4 : decode cX11_was 4 = .ok (.iload_n 1, 1) := by decide +kernel
theorem dX11_was_5 : decode cX11_was 5 = .ok (.invokevirtual 167, 3) := by decide +kernel
theorem dX11_was_8 : decode cX11_was 8 = .ok (.ifCond .eq 14, 3) := by decide +kernel
theorem dX11_was_11 : decode cX11_was 11 = .ok (.aload_n 0, 1) := by decide +kernel
theorem dX11_was_12 : decode cX11_was 12 = .ok (.getfield 84, 3) := by decide +kernel
theorem dX11_was_15 : decode cX11_was 15 = .ok (.iload_n 1, 1) := by decide +kernel
theorem dX11_was_16 : decode cX11_was 16 = .ok (.invokevirtual 321, 3) := by decide +kernel
theorem dX11_was_19 : decode cX11_was 19 = .ok (.goto 4, 3) := by decide +kernel
theorem dX11_was_22 : decode cX11_was 22 = .ok (.iconst (-1), 1) := by decide +kernel
theorem dX11_was_23 : decode cX11_was 23 = .ok (.ireturn, 1) := by decide +kernel
set_option maxRecDepth 20000 in
theorem ggX11_tells_X0_hasDeed : GoodIn wsX11_tells wsX0_hasDeed := goodIn_r _ [7, 8, 138, 139, 140, 141, 142, 143, 144, 145, 146, 147, 148, 149, 150, 151, 152] rfl (by decide +kernel)
set_option maxRecDepth 20000 in
theorem gX11_tells_X0_hasDeed : GoodIn wsX11_tells (wsV RX11 167 RX0 yX0_hasDeed wsX0_hasDeed) := goodIn_app (goodIn_r _ [3, 4, 5, 6] rfl (by decide +kernel)) ggX11_tells_X0_hasDeed
set_option maxRecDepth 20000 in
theorem ggX11_tells_X6_joysOf : GoodIn wsX11_tells wsX6_joysOf := goodIn_r _ [13, 14, 15, 16, 12, 17, 18, 19, 20, 21, 22, 23, 24, 25, 26, 27, 28, 29, 30, 31, 32, 33, 34, 35, 36, 37, 38, 39, 40, 41, 42, 43, 44, 45, 46, 47, 48, 49, 50, 51, 52, 53, 54, 55, 56, 57, 58, 59, 60, 61, 62, 63, 6, 64, 65, 66, 67, 68, 69, 70, 71, 72, 73, 74, 75, 76, 77, 78, 79, 80, 81, 82, 83, 84, 85, 86, 87, 88, 89, 90, 91, 92, 93, 94, 95, 96, 97, 98, 99, 100, 101, 102, 103, 104, 105, 106, 107, 108, 109, 110, 153, 154, 155, 156, 157, 158, 159, 160, 161, 162, 163, 164, 165, 166, 138, 139, 140, 141, 142, 143, 144, 145, 146, 147, 148, 149, 150, 151, 152, 167, 168, 169, 170, 171, 172, 173, 174, 175, 176, 177, 178, 179, 180] rfl (by decide +kernel)
set_option maxRecDepth 20000 in
theorem gX11_tells_X6_joysOf : GoodIn wsX11_tells (wsV RX11 321 RX6 yX6_joysOf wsX6_joysOf) := goodIn_app (goodIn_r _ [9, 10, 11, 12] rfl (by decide +kernel)) ggX11_tells_X6_joysOf
set_option maxRecDepth 20000 in
theorem ggX11_tells_X6_tellingDate : GoodIn wsX11_tells wsX6_tellingDate := goodIn_r _ [114, 115, 116, 117, 20, 118, 119, 4, 5, 6, 7, 8, 120, 121, 122, 12, 123, 34, 38, 39, 40, 41, 42, 43, 44, 45, 46, 47, 48, 49, 50, 51, 52, 53, 54, 55, 56, 57, 19, 21, 58, 59, 60, 61, 62, 63, 64, 65, 66, 67, 68, 69, 70, 71, 72, 73, 74, 75, 76, 77, 78, 79, 80, 81, 82, 83, 84, 85, 86, 87, 88, 89, 90, 91, 92, 93, 94, 95, 96, 97, 98, 99, 100, 101, 102, 103, 104, 105, 106, 107, 108, 109, 110, 153, 154, 155, 156, 157, 158, 159, 160, 161, 138, 139, 140, 141, 142, 143, 144, 145, 146, 147, 148, 149, 150, 151, 152, 162, 163, 164, 165, 166, 167, 168, 169, 170, 171, 172, 173, 174, 175, 176, 177, 178, 179, 180] rfl (by decide +kernel)
set_option maxRecDepth 20000 in
theorem gX11_tells_X6_tellingDate : GoodIn wsX11_tells (wsV RX11 324 RX6 yX6_tellingDate wsX6_tellingDate) := goodIn_app (goodIn_r _ [111, 112, 113, 12] rfl (by decide +kernel)) ggX11_tells_X6_tellingDate
theorem dX11_tells_0 : decode cX11_tells 0 = .ok (.aload_n 0, 1) := by decide +kernel
theorem dX11_tells_1 : decode cX11_tells 1 = .ok (.getfield 28, 3) := by decide +kernel
theorem dX11_tells_4 : decode cX11_tells 4 = .ok (.iload_n 1, 1) := by decide +kernel
theorem dX11_tells_5 : decode cX11_tells 5 = .ok (.invokevirtual 167, 3) := by decide +kernel
theorem dX11_tells_8 : decode cX11_tells 8 = .ok (.ifCond .ne 5, 3) := by decide +kernel
theorem dX11_tells_11 : decode cX11_tells 11 = .ok (.iconst (-1), 1) := by decide +kernel
theorem dX11_tells_12 : decode cX11_tells 12 = .ok (.ireturn, 1) := by decide +kernel
theorem dX11_tells_13 : decode cX11_tells 13 = .ok (.aload_n 0, 1) := by decide +kernel
theorem dX11_tells_14 : decode cX11_tells 14 = .ok (.getfield 84, 3) := by decide +kernel
theorem dX11_tells_17 : decode cX11_tells 17 = .ok (.iload_n 1, 1) := by decide +kernel
theorem dX11_tells_18 : decode cX11_tells 18 = .ok (.invokevirtual 321, 3) := by decide +kernel
theorem dX11_tells_21 : decode cX11_tells 21 = .ok (.istore_n 2, 1) := by decide +kernel
theorem dX11_tells_22 : decode cX11_tells 22 = .ok (.iload_n 2, 1) := by decide +kernel
theorem dX11_tells_23 : decode cX11_tells 23 = .ok (.ifCond .ne 8, 3) := by decide +kernel
theorem dX11_tells_26 : decode cX11_tells 26 = .ok (.bipush (-2), 2) := by decide +kernel
theorem dX11_tells_28 : decode cX11_tells 28 = .ok (.goto 12, 3) := by decide +kernel
theorem dX11_tells_31 : decode cX11_tells 31 = .ok (.aload_n 0, 1) := by decide +kernel
theorem dX11_tells_32 : decode cX11_tells 32 = .ok (.getfield 84, 3) := by decide +kernel
theorem dX11_tells_35 : decode cX11_tells 35 = .ok (.iload_n 1, 1) := by decide +kernel
theorem dX11_tells_36 : decode cX11_tells 36 = .ok (.iload_n 2, 1) := by decide +kernel
theorem dX11_tells_37 : decode cX11_tells 37 = .ok (.invokevirtual 324, 3) := by decide +kernel
theorem dX11_tells_40 : decode cX11_tells 40 = .ok (.ireturn, 1) := by decide +kernel
set_option maxRecDepth 20000 in
theorem ggX11_chance_X1_byChance : GoodIn wsX11_chance wsX1_byChance := goodIn_r _ [6, 7, 8, 9, 10, 11, 5, 12, 13, 14, 15, 16, 17, 18, 19, 20, 21, 22, 23, 24, 25, 26, 27, 28, 29, 30, 31, 32, 33, 34, 163, 164, 165, 166, 167, 168, 169, 170, 171, 172, 173, 174, 175, 176, 177, 178, 179, 180, 181, 182, 183] rfl (by decide +kernel)
set_option maxRecDepth 20000 in
theorem gX11_chance_X1_byChance : GoodIn wsX11_chance (wsV RX11 327 RX1 yX1_byChance wsX1_byChance) := goodIn_app (goodIn_r _ [2, 3, 4, 5] rfl (by decide +kernel)) ggX11_chance_X1_byChance
set_option maxRecDepth 20000 in
theorem ggX11_chance_X1_adriftOf : GoodIn wsX11_chance wsX1_adriftOf := goodIn_r _ [38, 8, 39, 40, 41, 5, 42, 43, 17, 16, 7, 15, 44, 45, 46, 21, 47, 23, 48, 49, 50, 51, 24, 25, 26, 52, 53, 54, 55, 27, 28, 29, 56, 57, 58, 59, 31, 60, 61, 62, 63, 64, 65, 66, 67, 68, 69, 70, 71, 72, 73, 74, 14, 75, 76, 77, 78, 79, 80, 81, 82, 83, 84, 85, 86, 87, 88, 89, 90, 91, 92, 93, 94, 95, 96, 97, 98, 99, 100, 101, 102, 103, 104, 105, 106, 107, 108, 109, 110, 111, 112, 113, 114, 115, 116, 117, 118, 119, 120, 121, 122, 123, 124, 125, 126, 127, 128, 129, 130, 131, 132, 133, 134, 135, 136, 137, 138, 139, 140, 141, 142, 143, 144, 145, 146, 147, 148, 163, 164, 165, 166, 167, 168, 169, 170, 171, 172, 173, 174, 175, 176, 177, 178, 179, 180, 181, 182, 183, 184, 185, 186, 187, 188, 189, 190, 191, 192, 193, 194, 195, 196, 197, 198, 199, 200, 201, 202, 203, 204, 205, 206, 207, 208, 209, 210, 211, 212] rfl (by decide +kernel)
set_option maxRecDepth 20000 in
theorem gX11_chance_X1_adriftOf : GoodIn wsX11_chance (wsV RX11 331 RX1 yX1_adriftOf wsX1_adriftOf) := goodIn_app (goodIn_r _ [35, 36, 37, 5] rfl (by decide +kernel)) ggX11_chance_X1_adriftOf
theorem dX11_chance_0 : decode cX11_chance 0 = .ok (.iload_n 1, 1) := by decide +kernel
theorem dX11_chance_1 : decode cX11_chance 1 = .ok (.ifCond .lt 24, 3) := by decide +kernel
theorem dX11_chance_4 : decode cX11_chance 4 = .ok (.iload_n 2, 1) := by decide +kernel
theorem dX11_chance_5 : decode cX11_chance 5 = .ok (.iconst 1, 1) := by decide +kernel
theorem dX11_chance_6 : decode cX11_chance 6 = .ok (.if_icmp .lt 19, 3) := by decide +kernel
theorem dX11_chance_9 : decode cX11_chance 9 = .ok (.iload_n 2, 1) := by decide +kernel
theorem dX11_chance_10 : decode cX11_chance 10 = .ok (.bipush 60, 2) := by decide +kernel
theorem dX11_chance_12 : decode cX11_chance 12 = .ok (.if_icmp .gt 13, 3) := by decide +kernel
theorem dX11_chance_15 : decode cX11_chance 15 = .ok (.iload_n 3, 1) := by decide +kernel
theorem dX11_chance_16 : decode cX11_chance 16 = .ok (.ifCond .lt 9, 3) := by decide +kernel
theorem dX11_chance_19 : decode cX11_chance 19 = .ok (.iload_n 3, 1) := by decide +kernel
theorem dX11_chance_20 : decode cX11_chance 20 = .ok (.bipush 60, 2) := by decide +kernel
theorem dX11_chance_22 : decode cX11_chance 22 = .ok (.if_icmp .le 5, 3) := by decide +kernel
theorem dX11_chance_25 : decode cX11_chance 25 = .ok (.iconst (-1), 1) := by decide +kernel
theorem dX11_chance_26 : decode cX11_chance 26 = .ok (.ireturn, 1) := by decide +kernel
theorem dX11_chance_27 : decode cX11_chance 27 = .ok (.iconst 0, 1) := by decide +kernel
theorem dX11_chance_28 : decode cX11_chance 28 = .ok (.istore 4, 2) := by decide +kernel
theorem dX11_chance_30 : decode cX11_chance 30 = .ok (.iload_n 1, 1) := by decide +kernel
theorem dX11_chance_31 : decode cX11_chance 31 = .ok (.i2l, 1) := by decide +kernel
theorem dX11_chance_32 : decode cX11_chance 32 = .ok (.lstore 5, 2) := by decide +kernel
theorem dX11_chance_34 : decode cX11_chance 34 = .ok (.iconst 0, 1) := by decide +kernel
theorem dX11_chance_35 : decode cX11_chance 35 = .ok (.istore 7, 2) := by decide +kernel
theorem dX11_chance_37 : decode cX11_chance 37 = .ok (.iload 7, 2) := by decide +kernel
theorem dX11_chance_39 : decode cX11_chance 39 = .ok (.bipush 10, 2) := by decide +kernel
theorem dX11_chance_41 : decode cX11_chance 41 = .ok (.if_icmp .ge 45, 3) := by decide +kernel
theorem dX11_chance_44 : decode cX11_chance 44 = .ok (.aload_n 0, 1) := by decide +kernel
theorem dX11_chance_45 : decode cX11_chance 45 = .ok (.getfield 66, 3) := by decide +kernel
theorem dX11_chance_48 : decode cX11_chance 48 = .ok (.lload 5, 2) := by decide +kernel
theorem dX11_chance_50 : decode cX11_chance 50 = .ok (.invokevirtual 327, 3) := by decide +kernel
theorem dX11_chance_53 : decode cX11_chance 53 = .ok (.aload_n 0, 1) := by decide +kernel
theorem dX11_chance_54 : decode cX11_chance 54 = .ok (.getfield 66, 3) := by decide +kernel
theorem dX11_chance_57 : decode cX11_chance 57 = .ok (.iload_n 2, 1) := by decide +kernel
theorem dX11_chance_58 : decode cX11_chance 58 = .ok (.invokevirtual 331, 3) := by decide +kernel
theorem dX11_chance_61 : decode cX11_chance 61 = .ok (.iload_n 3, 1) := by decide +kernel
theorem dX11_chance_62 : decode cX11_chance 62 = .ok (.if_icmp .gt 6, 3) := by decide +kernel
theorem dX11_chance_65 : decode cX11_chance 65 = .ok (.iinc 4 1, 3) := by decide +kernel
theorem dX11_chance_68 : decode cX11_chance 68 = .ok (.aload_n 0, 1) := by decide +kernel
theorem dX11_chance_69 : decode cX11_chance 69 = .ok (.getfield 66, 3) := by decide +kernel
theorem dX11_chance_72 : decode cX11_chance 72 = .ok (.getfield 334, 3) := by decide +kernel
theorem dX11_chance_75 : decode cX11_chance 75 = .ok (.getfield 337, 3) := by decide +kernel
theorem dX11_chance_78 : decode cX11_chance 78 = .ok (.lstore 5, 2) := by decide +kernel
theorem dX11_chance_80 : decode cX11_chance 80 = .ok (.iinc 7 1, 3) := by decide +kernel
theorem dX11_chance_83 : decode cX11_chance 83 = .ok (.goto (-46), 3) := by decide +kernel
theorem dX11_chance_86 : decode cX11_chance 86 = .ok (.iload 4, 2) := by decide +kernel
theorem dX11_chance_88 : decode cX11_chance 88 = .ok (.ireturn, 1) := by decide +kernel
set_option maxRecDepth 20000 in
theorem ggX11_tried_X0_hasDeed : GoodIn wsX11_tried wsX0_hasDeed := goodIn_r _ [7, 8, 173, 174, 175, 176, 177, 178, 179, 180, 181, 182, 183, 184, 185, 186, 187] rfl (by decide +kernel)
set_option maxRecDepth 20000 in
theorem gX11_tried_X0_hasDeed : GoodIn wsX11_tried (wsV RX11 167 RX0 yX0_hasDeed wsX0_hasDeed) := goodIn_app (goodIn_r _ [3, 4, 5, 6] rfl (by decide +kernel)) ggX11_tried_X0_hasDeed
set_option maxRecDepth 20000 in
theorem ggX11_tried_X1_asItGoes : GoodIn wsX11_tried wsX1_asItGoes := goodIn_r _ [13, 14, 15, 16, 17, 12, 18, 19, 20, 21, 22, 23, 24, 25, 26, 27, 28, 29, 30, 31, 32, 33, 34, 35, 36, 37, 38, 39, 40, 41, 188, 189, 190, 191, 192, 193, 194, 195, 196, 197, 198, 199, 200, 201, 202, 203, 204, 205, 206, 207, 208] rfl (by decide +kernel)
set_option maxRecDepth 20000 in
theorem gX11_tried_X1_asItGoes : GoodIn wsX11_tried (wsV RX11 259 RX1 yX1_asItGoes wsX1_asItGoes) := goodIn_app (goodIn_r _ [9, 10, 11, 12] rfl (by decide +kernel)) ggX11_tried_X1_asItGoes
set_option maxRecDepth 20000 in
theorem ggX11_tried_X1_otherwise : GoodIn wsX11_tried wsX1_otherwise := goodIn_r _ [45, 22, 24, 23, 19, 188, 189, 190, 191, 192, 193, 194, 195, 196, 197, 198, 199, 200, 201, 202, 203, 204, 205, 206, 207, 208] rfl (by decide +kernel)
set_option maxRecDepth 20000 in
theorem gX11_tried_X1_otherwise : GoodIn wsX11_tried (wsV RX11 341 RX1 yX1_otherwise wsX1_otherwise) := goodIn_app (goodIn_r _ [42, 43, 44, 12] rfl (by decide +kernel)) ggX11_tried_X1_otherwise
set_option maxRecDepth 20000 in
theorem ggX11_tried_X1_adriftOf : GoodIn wsX11_tried wsX1_adriftOf := goodIn_r _ [49, 19, 50, 51, 52, 12, 53, 54, 24, 23, 21, 22, 55, 56, 57, 28, 58, 30, 59, 60, 61, 62, 31, 32, 33, 63, 64, 65, 66, 34, 35, 36, 67, 68, 69, 70, 38, 71, 72, 73, 74, 75, 76, 77, 6, 78, 79, 80, 81, 82, 83, 84, 14, 85, 86, 87, 88, 89, 90, 91, 92, 93, 94, 95, 96, 97, 98, 99, 100, 101, 102, 103, 104, 105, 106, 107, 108, 109, 110, 111, 112, 113, 114, 115, 116, 117, 118, 119, 120, 121, 122, 123, 124, 125, 126, 127, 128, 129, 130, 131, 132, 133, 134, 135, 136, 137, 138, 139, 140, 141, 142, 143, 144, 145, 146, 147, 148, 149, 150, 151, 152, 153, 154, 155, 156, 157, 158, 188, 189, 190, 191, 192, 193, 194, 195, 196, 197, 198, 199, 200, 201, 202, 203, 204, 205, 206, 207, 208, 173, 174, 175, 176, 177, 178, 179, 180, 181, 182, 183, 184, 185, 186, 187, 209, 210, 211, 212, 213, 214, 215, 216, 217, 218, 219, 220, 221, 222] rfl (by decide +kernel)
set_option maxRecDepth 20000 in
theorem gX11_tried_X1_adriftOf : GoodIn wsX11_tried (wsV RX11 331 RX1 yX1_adriftOf wsX1_adriftOf) := goodIn_app (goodIn_r _ [46, 47, 48, 12] rfl (by decide +kernel)) ggX11_tried_X1_adriftOf
theorem dX11_tried_0 : decode cX11_tried 0 = .ok (.iload_n 1, 1) := by decide +kernel
theorem dX11_tried_1 : decode cX11_tried 1 = .ok (.iconst 2, 1) := by decide +kernel
theorem dX11_tried_2 : decode cX11_tried 2 = .ok (.if_icmp .ne 14, 3) := by decide +kernel
theorem dX11_tried_5 : decode cX11_tried 5 = .ok (.aload_n 0, 1) := by decide +kernel
theorem dX11_tried_6 : decode cX11_tried 6 = .ok (.getfield 28, 3) := by decide +kernel
theorem dX11_tried_9 : decode cX11_tried 9 = .ok (.iload_n 2, 1) := by decide +kernel
theorem dX11_tried_10 : decode cX11_tried 10 = .ok (.invokevirtual 167, 3) := by decide +kernel
theorem dX11_tried_13 : decode cX11_tried 13 = .ok (.goto 12, 3) := by decide +kernel
theorem dX11_tried_16 : decode cX11_tried 16 = .ok (.iload_n 2, 1) := by decide +kernel
theorem dX11_tried_17 : decode cX11_tried 17 = .ok (.ifCond .ne 7, 3) := by decide +kernel
theorem dX11_tried_20 : decode cX11_tried 20 = .ok (.iconst 1, 1) := by decide +kernel
theorem dX11_tried_21 : decode cX11_tried 21 = .ok (.goto 4, 3) := by decide +kernel
theorem dX11_tried_24 : decode cX11_tried 24 = .ok (.iconst 0, 1) := by decide +kernel
theorem dX11_tried_25 : decode cX11_tried 25 = .ok (.istore 4, 2) := by decide +kernel
theorem dX11_tried_27 : decode cX11_tried 27 = .ok (.iload_n 1, 1) := by decide +kernel
theorem dX11_tried_28 : decode cX11_tried 28 = .ok (.ifCond .lt 23, 3) := by decide +kernel
theorem dX11_tried_31 : decode cX11_tried 31 = .ok (.iload_n 1, 1) := by decide +kernel
theorem dX11_tried_32 : decode cX11_tried 32 = .ok (.iconst 5, 1) := by decide +kernel
theorem dX11_tried_33 : decode cX11_tried 33 = .ok (.if_icmp .gt 18, 3) := by decide +kernel
theorem dX11_tried_36 : decode cX11_tried 36 = .ok (.iload 4, 2) := by decide +kernel
theorem dX11_tried_38 : decode cX11_tried 38 = .ok (.ifCond .eq 13, 3) := by decide +kernel
theorem dX11_tried_41 : decode cX11_tried 41 = .ok (.iload_n 3, 1) := by decide +kernel
theorem dX11_tried_42 : decode cX11_tried 42 = .ok (.ifCond .lt 9, 3) := by decide +kernel
theorem dX11_tried_45 : decode cX11_tried 45 = .ok (.iload_n 3, 1) := by decide +kernel
theorem dX11_tried_46 : decode cX11_tried 46 = .ok (.bipush 60, 2) := by decide +kernel
theorem dX11_tried_48 : decode cX11_tried 48 = .ok (.if_icmp .le 5, 3) := by decide +kernel
theorem dX11_tried_51 : decode cX11_tried 51 = .ok (.iconst (-1), 1) := by decide +kernel
theorem dX11_tried_52 : decode cX11_tried 52 = .ok (.ireturn, 1) := by decide +kernel
theorem dX11_tried_53 : decode cX11_tried 53 = .ok (.aload_n 0, 1) := by decide +kernel
theorem dX11_tried_54 : decode cX11_tried 54 = .ok (.getfield 66, 3) := by decide +kernel
theorem dX11_tried_57 : decode cX11_tried 57 = .ok (.invokevirtual 259, 3) := by decide +kernel
theorem dX11_tried_60 : decode cX11_tried 60 = .ok (.aload_n 0, 1) := by decide +kernel
theorem dX11_tried_61 : decode cX11_tried 61 = .ok (.getfield 66, 3) := by decide +kernel
theorem dX11_tried_64 : decode cX11_tried 64 = .ok (.iload_n 1, 1) := by decide +kernel
theorem dX11_tried_65 : decode cX11_tried 65 = .ok (.iload_n 2, 1) := by decide +kernel
theorem dX11_tried_66 : decode cX11_tried 66 = .ok (.invokevirtual 341, 3) := by decide +kernel
theorem dX11_tried_69 : decode cX11_tried 69 = .ok (.aload_n 0, 1) := by decide +kernel
theorem dX11_tried_70 : decode cX11_tried 70 = .ok (.getfield 66, 3) := by decide +kernel
theorem dX11_tried_73 : decode cX11_tried 73 = .ok (.iload_n 3, 1) := by decide +kernel
theorem dX11_tried_74 : decode cX11_tried 74 = .ok (.invokevirtual 331, 3) := by decide +kernel
theorem dX11_tried_77 : decode cX11_tried 77 = .ok (.ireturn, 1) := by decide +kernel
set_option maxRecDepth 20000 in
theorem ggX11_undo_X2_takeBack : GoodIn wsX11_undo wsX2_takeBack := goodIn_r _ [6, 7, 8, 9, 10, 11, 12, 13, 14, 15, 16, 17, 18, 19, 20, 35, 36, 37, 38, 39, 40, 41, 42, 43, 44, 45, 46, 47, 48, 49, 50, 51, 52] rfl (by decide +kernel)
set_option maxRecDepth 20000 in
theorem gX11_undo_X2_takeBack : GoodIn wsX11_undo (wsV RX11 344 RX2 yX2_takeBack wsX2_takeBack) := goodIn_app (goodIn_r _ [2, 3, 4, 5] rfl (by decide +kernel)) ggX11_undo_X2_takeBack
theorem dX11_undo_0 : decode cX11_undo 0 = .ok (.aload_n 0, 1) := by decide +kernel
theorem dX11_undo_1 : decode cX11_undo 1 = .ok (.getfield 50, 3) := by decide +kernel
theorem dX11_undo_4 : decode cX11_undo 4 = .ok (.invokevirtual 344, 3) := by decide +kernel
theorem dX11_undo_7 : decode cX11_undo 7 = .ok (.ireturn, 1) := by decide +kernel
set_option maxRecDepth 20000 in
theorem ggX11_keep_X5_take : GoodIn wsX11_keep wsX5_take := goodIn_r _ [8, 9, 10, 11, 12, 13, 14, 15, 16, 17, 18, 19, 20, 35, 36, 37, 38, 39, 40, 41, 42, 43, 44, 45, 46] rfl (by decide +kernel)
set_option maxRecDepth 20000 in
theorem gX11_keep_X5_take : GoodIn wsX11_keep (wsV RX11 347 RX5 yX5_take wsX5_take) := goodIn_app (goodIn_r _ [4, 5, 6, 7] rfl (by decide +kernel)) ggX11_keep_X5_take
theorem dX11_keep_0 : decode cX11_keep 0 = .ok (.aload_n 0, 1) := by decide +kernel
theorem dX11_keep_1 : decode cX11_keep 1 = .ok (.getfield 42, 3) := by decide +kernel
theorem dX11_keep_4 : decode cX11_keep 4 = .ok (.aload_n 0, 1) := by decide +kernel
theorem dX11_keep_5 : decode cX11_keep 5 = .ok (.getfield 38, 3) := by decide +kernel
theorem dX11_keep_8 : decode cX11_keep 8 = .ok (.invokevirtual 347, 3) := by decide +kernel
theorem dX11_keep_11 : decode cX11_keep 11 = .ok (.aload_n 0, 1) := by decide +kernel
theorem dX11_keep_12 : decode cX11_keep 12 = .ok (.iconst 1, 1) := by decide +kernel
theorem dX11_keep_13 : decode cX11_keep 13 = .ok (.putfield 92, 3) := by decide +kernel
theorem dX11_keep_16 : decode cX11_keep 16 = .ok (.aload_n 0, 1) := by decide +kernel
theorem dX11_keep_17 : decode cX11_keep 17 = .ok (.getfield 38, 3) := by decide +kernel
theorem dX11_keep_20 : decode cX11_keep 20 = .ok (.getfield 204, 3) := by decide +kernel
theorem dX11_keep_23 : decode cX11_keep 23 = .ok (.ireturn, 1) := by decide +kernel
set_option maxRecDepth 20000 in
theorem ggX11_back_X5_take : GoodIn wsX11_back wsX5_take := goodIn_r _ [9, 10, 11, 12, 13, 14, 15, 16, 17, 18, 19, 20, 21, 42, 43, 44, 45, 46, 47, 48, 49, 50, 51, 52, 53] rfl (by decide +kernel)
set_option maxRecDepth 20000 in
theorem gX11_back_X5_take : GoodIn wsX11_back (wsV RX11 347 RX5 yX5_take wsX5_take) := goodIn_app (goodIn_r _ [5, 6, 7, 8] rfl (by decide +kernel)) ggX11_back_X5_take
set_option maxRecDepth 20000 in
theorem ggX11_back_X2_clear : GoodIn wsX11_back wsX2_clear := goodIn_r _ [26, 27, 54, 55, 56, 57, 58, 59] rfl (by decide +kernel)
set_option maxRecDepth 20000 in
theorem gX11_back_X2_clear : GoodIn wsX11_back (wsV RX11 130 RX2 yX2_clear wsX2_clear) := goodIn_app (goodIn_r _ [22, 23, 24, 25] rfl (by decide +kernel)) ggX11_back_X2_clear
theorem dX11_back_0 : decode cX11_back 0 = .ok (.aload_n 0, 1) := by decide +kernel
theorem dX11_back_1 : decode cX11_back 1 = .ok (.getfield 92, 3) := by decide +kernel
theorem dX11_back_4 : decode cX11_back 4 = .ok (.ifCond .ne 5, 3) := by decide +kernel
theorem dX11_back_7 : decode cX11_back 7 = .ok (.iconst (-1), 1) := by decide +kernel
theorem dX11_back_8 : decode cX11_back 8 = .ok (.ireturn, 1) := by decide +kernel
theorem dX11_back_9 : decode cX11_back 9 = .ok (.aload_n 0, 1) := by decide +kernel
theorem dX11_back_10 : decode cX11_back 10 = .ok (.getfield 38, 3) := by decide +kernel
theorem dX11_back_13 : decode cX11_back 13 = .ok (.aload_n 0, 1) := by decide +kernel
theorem dX11_back_14 : decode cX11_back 14 = .ok (.getfield 42, 3) := by decide +kernel
theorem dX11_back_17 : decode cX11_back 17 = .ok (.invokevirtual 347, 3) := by decide +kernel
theorem dX11_back_20 : decode cX11_back 20 = .ok (.aload_n 0, 1) := by decide +kernel
theorem dX11_back_21 : decode cX11_back 21 = .ok (.getfield 50, 3) := by decide +kernel
theorem dX11_back_24 : decode cX11_back 24 = .ok (.invokevirtual 130, 3) := by decide +kernel
theorem dX11_back_27 : decode cX11_back 27 = .ok (.aload_n 0, 1) := by decide +kernel
theorem dX11_back_28 : decode cX11_back 28 = .ok (.getfield 38, 3) := by decide +kernel
theorem dX11_back_31 : decode cX11_back 31 = .ok (.getfield 204, 3) := by decide +kernel
theorem dX11_back_34 : decode cX11_back 34 = .ok (.ireturn, 1) := by decide +kernel
set_option maxRecDepth 20000 in
theorem ggX11_count_X6_knownBy : GoodIn wsX11_count wsX6_knownBy := goodIn_r _ [8, 9, 10, 11, 12, 13, 14, 56, 57, 58, 59, 60, 61, 62, 63, 64] rfl (by decide +kernel)
set_option maxRecDepth 20000 in
theorem gX11_count_X6_knownBy : GoodIn wsX11_count (wsV RX11 359 RX6 yX6_knownBy wsX6_knownBy) := goodIn_app (goodIn_r _ [4, 5, 6, 7] rfl (by decide +kernel)) ggX11_count_X6_knownBy
set_option maxRecDepth 20000 in
theorem ggX11_count_X11_countOfLog : GoodIn wsX11_count wsX11_countOfLog := goodIn_r _ [19, 20, 21, 22, 23, 24, 25, 26, 27, 28, 29, 30, 31, 32, 33, 34, 71, 72, 73, 74, 75, 76, 77, 78, 79, 80, 81, 82] rfl (by decide +kernel)
set_option maxRecDepth 20000 in
theorem gX11_count_X11_countOfLog : GoodIn wsX11_count (wsV RX11 363 RX11 yX11_countOfLog wsX11_countOfLog) := goodIn_app (goodIn_r _ [15, 16, 17, 18] rfl (by decide +kernel)) ggX11_count_X11_countOfLog
theorem dX11_count_0 : decode cX11_count 0 = .ok (.iload_n 1, 1) := by decide +kernel
theorem dX11_count_1 : decode cX11_count 1 = .ok (.tableswitch 146 0 15 #[79, 87, 95, 103, 111, 146, 146, 146, 146, 146, 146, 146, 146, 122, 130, 138], 79) := by decide +kernel
theorem dX11_count_80 : decode cX11_count 80 = .ok (.aload_n 0, 1) := by decide +kernel
theorem dX11_count_81 : decode cX11_count 81 = .ok (.getfield 28, 3) := by decide +kernel
theorem dX11_count_84 : decode cX11_count 84 = .ok (.getfield 274, 3) := by decide +kernel
theorem dX11_count_87 : decode cX11_count 87 = .ok (.ireturn, 1) := by decide +kernel
theorem dX11_count_88 : decode cX11_count 88 = .ok (.aload_n 0, 1) := by decide +kernel
theorem dX11_count_89 : decode cX11_count 89 = .ok (.getfield 28, 3) := by decide +kernel
theorem dX11_count_92 : decode cX11_count 92 = .ok (.getfield 350, 3) := by decide +kernel
theorem dX11_count_95 : decode cX11_count 95 = .ok (.ireturn, 1) := by decide +kernel
theorem dX11_count_96 : decode cX11_count 96 = .ok (.aload_n 0, 1) := by decide +kernel
theorem dX11_count_97 : decode cX11_count 97 = .ok (.getfield 28, 3) := by decide +kernel
theorem dX11_count_100 : decode cX11_count 100 = .ok (.getfield 352, 3) := by decide +kernel
theorem dX11_count_103 : decode cX11_count 103 = .ok (.ireturn, 1) := by decide +kernel
theorem dX11_count_104 : decode cX11_count 104 = .ok (.aload_n 0, 1) := by decide +kernel
theorem dX11_count_105 : decode cX11_count 105 = .ok (.getfield 28, 3) := by decide +kernel
theorem dX11_count_108 : decode cX11_count 108 = .ok (.getfield 355, 3) := by decide +kernel
theorem dX11_count_111 : decode cX11_count 111 = .ok (.ireturn, 1) := by decide +kernel
theorem dX11_count_112 : decode cX11_count 112 = .ok (.aload_n 0, 1) := by decide +kernel
theorem dX11_count_113 : decode cX11_count 113 = .ok (.getfield 28, 3) := by decide +kernel
theorem dX11_count_116 : decode cX11_count 116 = .ok (.getfield 214, 3) := by decide +kernel
theorem dX11_count_119 : decode cX11_count 119 = .ok (.getfield 358, 3) := by decide +kernel
theorem dX11_count_122 : decode cX11_count 122 = .ok (.ireturn, 1) := by decide +kernel
theorem dX11_count_123 : decode cX11_count 123 = .ok (.aload_n 0, 1) := by decide +kernel
theorem dX11_count_124 : decode cX11_count 124 = .ok (.getfield 84, 3) := by decide +kernel
theorem dX11_count_127 : decode cX11_count 127 = .ok (.getfield 310, 3) := by decide +kernel
theorem dX11_count_130 : decode cX11_count 130 = .ok (.ireturn, 1) := by decide +kernel
theorem dX11_count_131 : decode cX11_count 131 = .ok (.aload_n 0, 1) := by decide +kernel
theorem dX11_count_132 : decode cX11_count 132 = .ok (.getfield 84, 3) := by decide +kernel
theorem dX11_count_135 : decode cX11_count 135 = .ok (.invokevirtual 359, 3) := by decide +kernel
theorem dX11_count_138 : decode cX11_count 138 = .ok (.ireturn, 1) := by decide +kernel
theorem dX11_count_139 : decode cX11_count 139 = .ok (.aload_n 0, 1) := by decide +kernel
theorem dX11_count_140 : decode cX11_count 140 = .ok (.getfield 50, 3) := by decide +kernel
theorem dX11_count_143 : decode cX11_count 143 = .ok (.getfield 362, 3) := by decide +kernel
theorem dX11_count_146 : decode cX11_count 146 = .ok (.ireturn, 1) := by decide +kernel
theorem dX11_count_147 : decode cX11_count 147 = .ok (.aload_n 0, 1) := by decide +kernel
theorem dX11_count_148 : decode cX11_count 148 = .ok (.iload_n 1, 1) := by decide +kernel
theorem dX11_count_149 : decode cX11_count 149 = .ok (.invokevirtual 363, 3) := by decide +kernel
theorem dX11_count_152 : decode cX11_count 152 = .ok (.ireturn, 1) := by decide +kernel
theorem dX11_countOfLog_0 : decode cX11_countOfLog 0 = .ok (.iload_n 1, 1) := by decide +kernel
theorem dX11_countOfLog_1 : decode cX11_countOfLog 1 = .ok (.tableswitch 135 5 12 #[47, 55, 79, 87, 95, 103, 111, 119], 47) := by decide +kernel
theorem dX11_countOfLog_48 : decode cX11_countOfLog 48 = .ok (.aload_n 0, 1) := by decide +kernel
theorem dX11_countOfLog_49 : decode cX11_countOfLog 49 = .ok (.getfield 38, 3) := by decide +kernel
theorem dX11_countOfLog_52 : decode cX11_countOfLog 52 = .ok (.getfield 204, 3) := by decide +kernel
theorem dX11_countOfLog_55 : decode cX11_countOfLog 55 = .ok (.ireturn, 1) := by decide +kernel
theorem dX11_countOfLog_56 : decode cX11_countOfLog 56 = .ok (.aload_n 0, 1) := by decide +kernel
theorem dX11_countOfLog_57 : decode cX11_countOfLog 57 = .ok (.getfield 38, 3) := by decide +kernel
theorem dX11_countOfLog_60 : decode cX11_countOfLog 60 = .ok (.getfield 228, 3) := by decide +kernel
theorem dX11_countOfLog_63 : decode cX11_countOfLog 63 = .ok (.iconst (-1), 1) := by decide +kernel
theorem dX11_countOfLog_64 : decode cX11_countOfLog 64 = .ok (.if_icmp .eq 8, 3) := by decide +kernel
theorem dX11_countOfLog_67 : decode cX11_countOfLog 67 = .ok (.bipush (-2), 2) := by decide +kernel
theorem dX11_countOfLog_69 : decode cX11_countOfLog 69 = .ok (.goto 10, 3) := by decide +kernel
theorem dX11_countOfLog_72 : decode cX11_countOfLog 72 = .ok (.aload_n 0, 1) := by decide +kernel
theorem dX11_countOfLog_73 : decode cX11_countOfLog 73 = .ok (.getfield 38, 3) := by decide +kernel
theorem dX11_countOfLog_76 : decode cX11_countOfLog 76 = .ok (.getfield 155, 3) := by decide +kernel
theorem dX11_countOfLog_79 : decode cX11_countOfLog 79 = .ok (.ireturn, 1) := by decide +kernel
theorem dX11_countOfLog_80 : decode cX11_countOfLog 80 = .ok (.aload_n 0, 1) := by decide +kernel
theorem dX11_countOfLog_81 : decode cX11_countOfLog 81 = .ok (.getfield 38, 3) := by decide +kernel
theorem dX11_countOfLog_84 : decode cX11_countOfLog 84 = .ok (.getfield 228, 3) := by decide +kernel
theorem dX11_countOfLog_87 : decode cX11_countOfLog 87 = .ok (.ireturn, 1) := by decide +kernel
theorem dX11_countOfLog_88 : decode cX11_countOfLog 88 = .ok (.aload_n 0, 1) := by decide +kernel
theorem dX11_countOfLog_89 : decode cX11_countOfLog 89 = .ok (.getfield 38, 3) := by decide +kernel
theorem dX11_countOfLog_92 : decode cX11_countOfLog 92 = .ok (.getfield 238, 3) := by decide +kernel
theorem dX11_countOfLog_95 : decode cX11_countOfLog 95 = .ok (.ireturn, 1) := by decide +kernel
theorem dX11_countOfLog_96 : decode cX11_countOfLog 96 = .ok (.aload_n 0, 1) := by decide +kernel
theorem dX11_countOfLog_97 : decode cX11_countOfLog 97 = .ok (.getfield 38, 3) := by decide +kernel
theorem dX11_countOfLog_100 : decode cX11_countOfLog 100 = .ok (.getfield 366, 3) := by decide +kernel
theorem dX11_countOfLog_103 : decode cX11_countOfLog 103 = .ok (.ireturn, 1) := by decide +kernel
theorem dX11_countOfLog_104 : decode cX11_countOfLog 104 = .ok (.aload_n 0, 1) := by decide +kernel
theorem dX11_countOfLog_105 : decode cX11_countOfLog 105 = .ok (.getfield 38, 3) := by decide +kernel
theorem dX11_countOfLog_108 : decode cX11_countOfLog 108 = .ok (.getfield 369, 3) := by decide +kernel
theorem dX11_countOfLog_111 : decode cX11_countOfLog 111 = .ok (.ireturn, 1) := by decide +kernel
theorem dX11_countOfLog_112 : decode cX11_countOfLog 112 = .ok (.aload_n 0, 1) := by decide +kernel
theorem dX11_countOfLog_113 : decode cX11_countOfLog 113 = .ok (.getfield 38, 3) := by decide +kernel
theorem dX11_countOfLog_116 : decode cX11_countOfLog 116 = .ok (.getfield 372, 3) := by decide +kernel
theorem dX11_countOfLog_119 : decode cX11_countOfLog 119 = .ok (.ireturn, 1) := by decide +kernel
theorem dX11_countOfLog_120 : decode cX11_countOfLog 120 = .ok (.aload_n 0, 1) := by decide +kernel
theorem dX11_countOfLog_121 : decode cX11_countOfLog 121 = .ok (.getfield 38, 3) := by decide +kernel
theorem dX11_countOfLog_124 : decode cX11_countOfLog 124 = .ok (.getfield 247, 3) := by decide +kernel
theorem dX11_countOfLog_127 : decode cX11_countOfLog 127 = .ok (.ifCond .eq 7, 3) := by decide +kernel
theorem dX11_countOfLog_130 : decode cX11_countOfLog 130 = .ok (.iconst 1, 1) := by decide +kernel
theorem dX11_countOfLog_131 : decode cX11_countOfLog 131 = .ok (.goto 4, 3) := by decide +kernel
theorem dX11_countOfLog_134 : decode cX11_countOfLog 134 = .ok (.iconst 0, 1) := by decide +kernel
theorem dX11_countOfLog_135 : decode cX11_countOfLog 135 = .ok (.ireturn, 1) := by decide +kernel
theorem dX11_countOfLog_136 : decode cX11_countOfLog 136 = .ok (.iconst (-1), 1) := by decide +kernel
theorem dX11_countOfLog_137 : decode cX11_countOfLog 137 = .ok (.ireturn, 1) := by decide +kernel
set_option maxRecDepth 20000 in
theorem ggX11_canForesee_X0_hasBay : GoodIn wsX11_canForesee wsX0_hasBay := goodIn_r _ [7, 8, 35, 36, 37, 38, 39, 40, 41, 42, 43, 44, 45, 46, 47, 48, 49] rfl (by decide +kernel)
set_option maxRecDepth 20000 in
theorem gX11_canForesee_X0_hasBay : GoodIn wsX11_canForesee (wsV RX11 135 RX0 yX0_hasBay wsX0_hasBay) := goodIn_app (goodIn_r _ [3, 4, 5, 6] rfl (by decide +kernel)) ggX11_canForesee_X0_hasBay
theorem dX11_canForesee_0 : decode cX11_canForesee 0 = .ok (.aload_n 0, 1) := by decide +kernel
theorem dX11_canForesee_1 : decode cX11_canForesee 1 = .ok (.getfield 28, 3) := by decide +kernel
theorem dX11_canForesee_4 : decode cX11_canForesee 4 = .ok (.iload_n 1, 1) := by decide +kernel
theorem dX11_canForesee_5 : decode cX11_canForesee 5 = .ok (.invokevirtual 135, 3) := by decide +kernel
theorem dX11_canForesee_8 : decode cX11_canForesee 8 = .ok (.ifCond .eq 32, 3) := by decide +kernel
theorem dX11_canForesee_11 : decode cX11_canForesee 11 = .ok (.iload_n 2, 1) := by decide +kernel
theorem dX11_canForesee_12 : decode cX11_canForesee 12 = .ok (.aload_n 0, 1) := by decide +kernel
theorem dX11_canForesee_13 : decode cX11_canForesee 13 = .ok (.getfield 38, 3) := by decide +kernel
theorem dX11_canForesee_16 : decode cX11_canForesee 16 = .ok (.getfield 204, 3) := by decide +kernel
theorem dX11_canForesee_19 : decode cX11_canForesee 19 = .ok (.if_icmp .lt 21, 3) := by decide +kernel
theorem dX11_canForesee_22 : decode cX11_canForesee 22 = .ok (.iload_n 2, 1) := by decide +kernel
theorem dX11_canForesee_23 : decode cX11_canForesee 23 = .ok (.aload_n 0, 1) := by decide +kernel
theorem dX11_canForesee_24 : decode cX11_canForesee 24 = .ok (.getfield 38, 3) := by decide +kernel
theorem dX11_canForesee_27 : decode cX11_canForesee 27 = .ok (.getfield 204, 3) := by decide +kernel
theorem dX11_canForesee_30 : decode cX11_canForesee 30 = .ok (.bipush 99, 2) := by decide +kernel
theorem dX11_canForesee_32 : decode cX11_canForesee 32 = .ok (.iadd, 1) := by decide +kernel
theorem dX11_canForesee_33 : decode cX11_canForesee 33 = .ok (.if_icmp .gt 7, 3) := by decide +kernel
theorem dX11_canForesee_36 : decode cX11_canForesee 36 = .ok (.iconst 1, 1) := by decide +kernel
theorem dX11_canForesee_37 : decode cX11_canForesee 37 = .ok (.goto 4, 3) := by decide +kernel
theorem dX11_canForesee_40 : decode cX11_canForesee 40 = .ok (.iconst 0, 1) := by decide +kernel
theorem dX11_canForesee_41 : decode cX11_canForesee 41 = .ok (.ireturn, 1) := by decide +kernel
theorem dX11_isShare_0 : decode cX11_isShare 0 = .ok (.iload_n 1, 1) := by decide +kernel
theorem dX11_isShare_1 : decode cX11_isShare 1 = .ok (.iconst 1, 1) := by decide +kernel
theorem dX11_isShare_2 : decode cX11_isShare 2 = .ok (.if_icmp .lt 23, 3) := by decide +kernel
theorem dX11_isShare_5 : decode cX11_isShare 5 = .ok (.iload_n 1, 1) := by decide +kernel
theorem dX11_isShare_6 : decode cX11_isShare 6 = .ok (.bipush 60, 2) := by decide +kernel
theorem dX11_isShare_8 : decode cX11_isShare 8 = .ok (.if_icmp .gt 17, 3) := by decide +kernel
theorem dX11_isShare_11 : decode cX11_isShare 11 = .ok (.aload_n 0, 1) := by decide +kernel
theorem dX11_isShare_12 : decode cX11_isShare 12 = .ok (.getfield 28, 3) := by decide +kernel
theorem dX11_isShare_15 : decode cX11_isShare 15 = .ok (.getfield 274, 3) := by decide +kernel
theorem dX11_isShare_18 : decode cX11_isShare 18 = .ok (.ifCond .le 7, 3) := by decide +kernel
theorem dX11_isShare_21 : decode cX11_isShare 21 = .ok (.iconst 1, 1) := by decide +kernel
theorem dX11_isShare_22 : decode cX11_isShare 22 = .ok (.goto 4, 3) := by decide +kernel
theorem dX11_isShare_25 : decode cX11_isShare 25 = .ok (.iconst 0, 1) := by decide +kernel
theorem dX11_isShare_26 : decode cX11_isShare 26 = .ok (.ireturn, 1) := by decide +kernel
set_option maxRecDepth 20000 in
theorem ggX11_bidOf_X3_moodOf : GoodIn wsX11_bidOf wsX3_moodOf := goodIn_r _ [12, 13, 14, 15, 16, 17, 18, 19, 20, 21, 22, 23, 24, 25, 26, 27, 28, 29, 30, 11, 31, 32, 33, 34, 35, 36, 37, 6, 38, 39, 5, 7, 40, 41, 42, 43, 44, 45, 46, 47, 48, 49, 50, 51, 52, 53, 54, 55, 56, 57, 58, 59, 60, 61, 62, 63, 64, 65, 66, 67, 68, 69, 70, 71, 72, 73, 74, 75, 76, 77, 78, 79, 80, 81, 82, 83, 84, 85, 86, 120, 121, 122, 123, 124, 125, 126, 127, 128, 129, 130, 131, 132, 133, 134, 135, 136, 137, 138, 139, 140, 141, 142, 143, 144, 145, 146, 147, 108, 109, 110, 111, 112, 113, 114, 115, 116, 117, 118, 119, 148, 149, 150, 151, 152, 153] rfl (by decide +kernel)
set_option maxRecDepth 20000 in
theorem gX11_bidOf_X3_moodOf : GoodIn wsX11_bidOf (wsV RX11 186 RX3 yX3_moodOf wsX3_moodOf) := goodIn_app (goodIn_r _ [8, 9, 10, 11] rfl (by decide +kernel)) ggX11_bidOf_X3_moodOf
theorem dX11_bidOf_0 : decode cX11_bidOf 0 = .ok (.aload_n 0, 1) := by decide +kernel
theorem dX11_bidOf_1 : decode cX11_bidOf 1 = .ok (.getfield 75, 3) := by decide +kernel
theorem dX11_bidOf_4 : decode cX11_bidOf 4 = .ok (.getfield 271, 3) := by decide +kernel
theorem dX11_bidOf_7 : decode cX11_bidOf 7 = .ok (.iload_n 1, 1) := by decide +kernel
theorem dX11_bidOf_8 : decode cX11_bidOf 8 = .ok (.iaload, 1) := by decide +kernel
theorem dX11_bidOf_9 : decode cX11_bidOf 9 = .ok (.istore_n 2, 1) := by decide +kernel
theorem dX11_bidOf_10 : decode cX11_bidOf 10 = .ok (.iload_n 2, 1) := by decide +kernel
theorem dX11_bidOf_11 : decode cX11_bidOf 11 = .ok (.iconst (-1), 1) := by decide +kernel
theorem dX11_bidOf_12 : decode cX11_bidOf 12 = .ok (.if_icmp .ne 5, 3) := by decide +kernel
theorem dX11_bidOf_15 : decode cX11_bidOf 15 = .ok (.iconst 0, 1) := by decide +kernel
theorem dX11_bidOf_16 : decode cX11_bidOf 16 = .ok (.ireturn, 1) := by decide +kernel
theorem dX11_bidOf_17 : decode cX11_bidOf 17 = .ok (.iconst 0, 1) := by decide +kernel
theorem dX11_bidOf_18 : decode cX11_bidOf 18 = .ok (.aload_n 0, 1) := by decide +kernel
theorem dX11_bidOf_19 : decode cX11_bidOf 19 = .ok (.getfield 59, 3) := by decide +kernel
theorem dX11_bidOf_22 : decode cX11_bidOf 22 = .ok (.iload_n 1, 1) := by decide +kernel
theorem dX11_bidOf_23 : decode cX11_bidOf 23 = .ok (.aload_n 0, 1) := by decide +kernel
theorem dX11_bidOf_24 : decode cX11_bidOf 24 = .ok (.getfield 38, 3) := by decide +kernel
theorem dX11_bidOf_27 : decode cX11_bidOf 27 = .ok (.getfield 204, 3) := by decide +kernel
theorem dX11_bidOf_30 : decode cX11_bidOf 30 = .ok (.invokevirtual 186, 3) := by decide +kernel
theorem dX11_bidOf_33 : decode cX11_bidOf 33 = .ok (.bipush 10, 2) := by decide +kernel
theorem dX11_bidOf_35 : decode cX11_bidOf 35 = .ok (.iload_n 2, 1) := by decide +kernel
theorem dX11_bidOf_36 : decode cX11_bidOf 36 = .ok (.imul, 1) := by decide +kernel
theorem dX11_bidOf_37 : decode cX11_bidOf 37 = .ok (.isub, 1) := by decide +kernel
theorem dX11_bidOf_38 : decode cX11_bidOf 38 = .ok (.invokestatic 375, 3) := by decide +kernel
theorem dX11_bidOf_41 : decode cX11_bidOf 41 = .ok (.ireturn, 1) := by decide +kernel
theorem dX11_commonPart_0 : decode cX11_commonPart 0 = .ok (.iload_n 1, 1) := by decide +kernel
theorem dX11_commonPart_1 : decode cX11_commonPart 1 = .ok (.istore_n 2, 1) := by decide +kernel
theorem dX11_commonPart_2 : decode cX11_commonPart 2 = .ok (.iload_n 2, 1) := by decide +kernel
theorem dX11_commonPart_3 : decode cX11_commonPart 3 = .ok (.iconst 1, 1) := by decide +kernel
theorem dX11_commonPart_4 : decode cX11_commonPart 4 = .ok (.if_icmp .le 23, 3) := by decide +kernel
theorem dX11_commonPart_7 : decode cX11_commonPart 7 = .ok (.iload_n 0, 1) := by decide +kernel
theorem dX11_commonPart_8 : decode cX11_commonPart 8 = .ok (.iload_n 2, 1) := by decide +kernel
theorem dX11_commonPart_9 : decode cX11_commonPart 9 = .ok (.irem, 1) := by decide +kernel
theorem dX11_commonPart_10 : decode cX11_commonPart 10 = .ok (.ifCond .ne 11, 3) := by decide +kernel
theorem dX11_commonPart_13 : decode cX11_commonPart 13 = .ok (.iload_n 1, 1) := by decide +kernel
theorem dX11_commonPart_14 : decode cX11_commonPart 14 = .ok (.iload_n 2, 1) := by decide +kernel
theorem dX11_commonPart_15 : decode cX11_commonPart 15 = .ok (.irem, 1) := by decide +kernel
theorem dX11_commonPart_16 : decode cX11_commonPart 16 = .ok (.ifCond .ne 5, 3) := by decide +kernel
theorem dX11_commonPart_19 : decode cX11_commonPart 19 = .ok (.iload_n 2, 1) := by decide +kernel
theorem dX11_commonPart_20 : decode cX11_commonPart 20 = .ok (.ireturn, 1) := by decide +kernel
theorem dX11_commonPart_21 : decode cX11_commonPart 21 = .ok (.iinc 2 (-1), 3) := by decide +kernel
theorem dX11_commonPart_24 : decode cX11_commonPart 24 = .ok (.goto (-22), 3) := by decide +kernel
theorem dX11_commonPart_27 : decode cX11_commonPart 27 = .ok (.iconst 1, 1) := by decide +kernel
theorem dX11_commonPart_28 : decode cX11_commonPart 28 = .ok (.ireturn, 1) := by decide +kernel
set_option maxRecDepth 20000 in
theorem ggX12_init_X12_begins : GoodIn wsX12_init wsX12_begins := goodIn_r _ [54, 55, 56, 57, 53, 58, 23, 24, 6, 25, 26, 27, 28, 29, 30, 31, 32, 33, 34, 59, 60, 61, 62, 63, 64, 65, 66, 67, 68, 69, 70, 71, 72, 73, 74, 75, 76, 77, 78, 79, 80, 81, 82, 83, 84, 85, 86, 87, 88, 89, 90, 91, 92, 93, 94, 95, 96, 97, 98, 99, 100, 101, 102, 103, 104, 105, 106, 107, 108, 109, 110, 111, 112, 113, 114, 115, 116, 117, 118, 119, 120, 121, 122, 123, 124] rfl (by decide +kernel)
set_option maxRecDepth 20000 in
theorem gX12_init_X12_begins : GoodIn wsX12_init (wsV RX12 142 RX12 yX12_begins wsX12_begins) := goodIn_app (goodIn_r _ [50, 51, 52, 53] rfl (by decide +kernel)) ggX12_init_X12_begins
theorem dX12_init_0 : decode cX12_init 0 = .ok (.aload_n 0, 1) := by decide +kernel
theorem dX12_init_1 : decode cX12_init 1 = .ok (.invokespecial 1, 3) := by decide +kernel
theorem dX12_init_4 : decode cX12_init 4 = .ok (.aload_n 0, 1) := by decide +kernel
theorem dX12_init_5 : decode cX12_init 5 = .ok (.sipush 700, 3) := by decide +kernel
theorem dX12_init_8 : decode cX12_init 8 = .ok (.newarray .int, 2) := by decide +kernel
theorem dX12_init_10 : decode cX12_init 10 = .ok (.putfield 7, 3) := by decide +kernel
theorem dX12_init_13 : decode cX12_init 13 = .ok (.aload_n 0, 1) := by decide +kernel
theorem dX12_init_14 : decode cX12_init 14 = .ok (.bipush 18, 2) := by decide +kernel
theorem dX12_init_16 : decode cX12_init 16 = .ok (.newarray .int, 2) := by decide +kernel
theorem dX12_init_18 : decode cX12_init 18 = .ok (.dup, 1) := by decide +kernel
theorem dX12_init_19 : decode cX12_init 19 = .ok (.iconst 0, 1) := by decide +kernel
theorem dX12_init_20 : decode cX12_init 20 = .ok (.iconst 0, 1) := by decide +kernel
theorem dX12_init_21 : decode cX12_init 21 = .ok (.iastore, 1) := by decide +kernel
theorem dX12_init_22 : decode cX12_init 22 = .ok (.dup, 1) := by decide +kernel
theorem dX12_init_23 : decode cX12_init 23 = .ok (.iconst 1, 1) := by decide +kernel
theorem dX12_init_24 : decode cX12_init 24 = .ok (.iconst 0, 1) := by decide +kernel
theorem dX12_init_25 : decode cX12_init 25 = .ok (.iastore, 1) := by decide +kernel
theorem dX12_init_26 : decode cX12_init 26 = .ok (.dup, 1) := by decide +kernel
theorem dX12_init_27 : decode cX12_init 27 = .ok (.iconst 2, 1) := by decide +kernel
theorem dX12_init_28 : decode cX12_init 28 = .ok (.iconst 0, 1) := by decide +kernel
theorem dX12_init_29 : decode cX12_init 29 = .ok (.iastore, 1) := by decide +kernel
theorem dX12_init_30 : decode cX12_init 30 = .ok (.dup, 1) := by decide +kernel
theorem dX12_init_31 : decode cX12_init 31 = .ok (.iconst 3, 1) := by decide +kernel
theorem dX12_init_32 : decode cX12_init 32 = .ok (.iconst 0, 1) := by decide +kernel
theorem dX12_init_33 : decode cX12_init 33 = .ok (.iastore, 1) := by decide +kernel
theorem dX12_init_34 : decode cX12_init 34 = .ok (.dup, 1) := by decide +kernel
theorem dX12_init_35 : decode cX12_init 35 = .ok (.iconst 4, 1) := by decide +kernel
theorem dX12_init_36 : decode cX12_init 36 = .ok (.iconst 0, 1) := by decide +kernel
theorem dX12_init_37 : decode cX12_init 37 = .ok (.iastore, 1) := by decide +kernel
theorem dX12_init_38 : decode cX12_init 38 = .ok (.dup, 1) := by decide +kernel
theorem dX12_init_39 : decode cX12_init 39 = .ok (.iconst 5, 1) := by decide +kernel
theorem dX12_init_40 : decode cX12_init 40 = .ok (.bipush 9, 2) := by decide +kernel
theorem dX12_init_42 : decode cX12_init 42 = .ok (.iastore, 1) := by decide +kernel
theorem dX12_init_43 : decode cX12_init 43 = .ok (.dup, 1) := by decide +kernel
theorem dX12_init_44 : decode cX12_init 44 = .ok (.bipush 6, 2) := by decide +kernel
theorem dX12_init_46 : decode cX12_init 46 = .ok (.bipush 50, 2) := by decide +kernel
theorem dX12_init_48 : decode cX12_init 48 = .ok (.iastore, 1) := by decide +kernel
theorem dX12_init_49 : decode cX12_init 49 = .ok (.dup, 1) := by decide +kernel
theorem dX12_init_50 : decode cX12_init 50 = .ok (.bipush 7, 2) := by decide +kernel
theorem dX12_init_52 : decode cX12_init 52 = .ok (.iconst 0, 1) := by decide +kernel
theorem dX12_init_53 : decode cX12_init 53 = .ok (.iastore, 1) := by decide +kernel
theorem dX12_init_54 : decode cX12_init 54 = .ok (.dup, 1) := by decide +kernel
theorem dX12_init_55 : decode cX12_init 55 = .ok (.bipush 8, 2) := by decide +kernel
theorem dX12_init_57 : decode cX12_init 57 = .ok (.iconst 0, 1) := by decide +kernel
theorem dX12_init_58 : decode cX12_init 58 = .ok (.iastore, 1) := by decide +kernel
theorem dX12_init_59 : decode cX12_init 59 = .ok (.dup, 1) := by decide +kernel
theorem dX12_init_60 : decode cX12_init 60 = .ok (.bipush 9, 2) := by decide +kernel
theorem dX12_init_62 : decode cX12_init 62 = .ok (.iconst 0, 1) := by decide +kernel
theorem dX12_init_63 : decode cX12_init 63 = .ok (.iastore, 1) := by decide +kernel
theorem dX12_init_64 : decode cX12_init 64 = .ok (.dup, 1) := by decide +kernel
theorem dX12_init_65 : decode cX12_init 65 = .ok (.bipush 10, 2) := by decide +kernel
theorem dX12_init_67 : decode cX12_init 67 = .ok (.iconst 0, 1) := by decide +kernel
theorem dX12_init_68 : decode cX12_init 68 = .ok (.iastore, 1) := by decide +kernel
theorem dX12_init_69 : decode cX12_init 69 = .ok (.dup, 1) := by decide +kernel
theorem dX12_init_70 : decode cX12_init 70 = .ok (.bipush 11, 2) := by decide +kernel
theorem dX12_init_72 : decode cX12_init 72 = .ok (.iconst 0, 1) := by decide +kernel
theorem dX12_init_73 : decode cX12_init 73 = .ok (.iastore, 1) := by decide +kernel
theorem dX12_init_74 : decode cX12_init 74 = .ok (.dup, 1) := by decide +kernel
theorem dX12_init_75 : decode cX12_init 75 = .ok (.bipush 12, 2) := by decide +kernel
theorem dX12_init_77 : decode cX12_init 77 = .ok (.iconst 0, 1) := by decide +kernel
theorem dX12_init_78 : decode cX12_init 78 = .ok (.iastore, 1) := by decide +kernel
theorem dX12_init_79 : decode cX12_init 79 = .ok (.dup, 1) := by decide +kernel
theorem dX12_init_80 : decode cX12_init 80 = .ok (.bipush 13, 2) := by decide +kernel
theorem dX12_init_82 : decode cX12_init 82 = .ok (.iconst 0, 1) := by decide +kernel
theorem dX12_init_83 : decode cX12_init 83 = .ok (.iastore, 1) := by decide +kernel
theorem dX12_init_84 : decode cX12_init 84 = .ok (.dup, 1) := by decide +kernel
theorem dX12_init_85 : decode cX12_init 85 = .ok (.bipush 14, 2) := by decide +kernel
theorem dX12_init_87 : decode cX12_init 87 = .ok (.bipush 9, 2) := by decide +kernel
theorem dX12_init_89 : decode cX12_init 89 = .ok (.iastore, 1) := by decide +kernel
theorem dX12_init_90 : decode cX12_init 90 = .ok (.dup, 1) := by decide +kernel
theorem dX12_init_91 : decode cX12_init 91 = .ok (.bipush 15, 2) := by decide +kernel
theorem dX12_init_93 : decode cX12_init 93 = .ok (.bipush 50, 2) := by decide +kernel
theorem dX12_init_95 : decode cX12_init 95 = .ok (.iastore, 1) := by decide +kernel
theorem dX12_init_96 : decode cX12_init 96 = .ok (.dup, 1) := by decide +kernel
theorem dX12_init_97 : decode cX12_init 97 = .ok (.bipush 16, 2) := by decide +kernel
theorem dX12_init_99 : decode cX12_init 99 = .ok (.iconst 0, 1) := by decide +kernel
theorem dX12_init_100 : decode cX12_init 100 = .ok (.iastore, 1) := by decide +kernel
theorem dX12_init_101 : decode cX12_init 101 = .ok (.dup, 1) := by decide +kernel
theorem dX12_init_102 : decode cX12_init 102 = .ok (.bipush 17, 2) := by decide +kernel
theorem dX12_init_104 : decode cX12_init 104 = .ok (.iconst 0, 1) := by decide +kernel
theorem dX12_init_105 : decode cX12_init 105 = .ok (.iastore, 1) := by decide +kernel
theorem dX12_init_106 : decode cX12_init 106 = .ok (.putfield 13, 3) := by decide +kernel
theorem dX12_init_109 : decode cX12_init 109 = .ok (.aload_n 0, 1) := by decide +kernel
theorem dX12_init_110 : decode cX12_init 110 = .ok (.bipush 16, 2) := by decide +kernel
theorem dX12_init_112 : decode cX12_init 112 = .ok (.newarray .int, 2) := by decide +kernel
theorem dX12_init_114 : decode cX12_init 114 = .ok (.putfield 16, 3) := by decide +kernel
theorem dX12_init_117 : decode cX12_init 117 = .ok (.aload_n 0, 1) := by decide +kernel
theorem dX12_init_118 : decode cX12_init 118 = .ok (.bipush 24, 2) := by decide +kernel
theorem dX12_init_120 : decode cX12_init 120 = .ok (.newarray .int, 2) := by decide +kernel
theorem dX12_init_122 : decode cX12_init 122 = .ok (.putfield 19, 3) := by decide +kernel
theorem dX12_init_125 : decode cX12_init 125 = .ok (.aload_n 0, 1) := by decide +kernel
theorem dX12_init_126 : decode cX12_init 126 = .ok (.bipush 24, 2) := by decide +kernel
theorem dX12_init_128 : decode cX12_init 128 = .ok (.newarray .int, 2) := by decide +kernel
theorem dX12_init_130 : decode cX12_init 130 = .ok (.putfield 22, 3) := by decide +kernel
theorem dX12_init_133 : decode cX12_init 133 = .ok (.aload_n 0, 1) := by decide +kernel
theorem dX12_init_134 : decode cX12_init 134 = .ok (.bipush 24, 2) := by decide +kernel
theorem dX12_init_136 : decode cX12_init 136 = .ok (.newarray .int, 2) := by decide +kernel
theorem dX12_init_138 : decode cX12_init 138 = .ok (.putfield 25, 3) := by decide +kernel
theorem dX12_init_141 : decode cX12_init 141 = .ok (.aload_n 0, 1) := by decide +kernel
theorem dX12_init_142 : decode cX12_init 142 = .ok (.bipush 24, 2) := by decide +kernel
theorem dX12_init_144 : decode cX12_init 144 = .ok (.newarray .int, 2) := by decide +kernel
theorem dX12_init_146 : decode cX12_init 146 = .ok (.putfield 28, 3) := by decide +kernel
theorem dX12_init_149 : decode cX12_init 149 = .ok (.aload_n 0, 1) := by decide +kernel
theorem dX12_init_150 : decode cX12_init 150 = .ok (.bipush 24, 2) := by decide +kernel
theorem dX12_init_152 : decode cX12_init 152 = .ok (.newarray .int, 2) := by decide +kernel
theorem dX12_init_154 : decode cX12_init 154 = .ok (.putfield 31, 3) := by decide +kernel
theorem dX12_init_157 : decode cX12_init 157 = .ok (.aload_n 0, 1) := by decide +kernel
theorem dX12_init_158 : decode cX12_init 158 = .ok (.bipush 24, 2) := by decide +kernel
theorem dX12_init_160 : decode cX12_init 160 = .ok (.newarray .int, 2) := by decide +kernel
theorem dX12_init_162 : decode cX12_init 162 = .ok (.putfield 34, 3) := by decide +kernel
theorem dX12_init_165 : decode cX12_init 165 = .ok (.aload_n 0, 1) := by decide +kernel
theorem dX12_init_166 : decode cX12_init 166 = .ok (.bipush 40, 2) := by decide +kernel
theorem dX12_init_168 : decode cX12_init 168 = .ok (.newarray .int, 2) := by decide +kernel
theorem dX12_init_170 : decode cX12_init 170 = .ok (.putfield 37, 3) := by decide +kernel
theorem dX12_init_173 : decode cX12_init 173 = .ok (.aload_n 0, 1) := by decide +kernel
theorem dX12_init_174 : decode cX12_init 174 = .ok (.bipush 6, 2) := by decide +kernel
theorem dX12_init_176 : decode cX12_init 176 = .ok (.newarray .int, 2) := by decide +kernel
theorem dX12_init_178 : decode cX12_init 178 = .ok (.putfield 40, 3) := by decide +kernel
theorem dX12_init_181 : decode cX12_init 181 = .ok (.aload_n 0, 1) := by decide +kernel
theorem dX12_init_182 : decode cX12_init 182 = .ok (.bipush 6, 2) := by decide +kernel
theorem dX12_init_184 : decode cX12_init 184 = .ok (.newarray .int, 2) := by decide +kernel
theorem dX12_init_186 : decode cX12_init 186 = .ok (.putfield 43, 3) := by decide +kernel
theorem dX12_init_189 : decode cX12_init 189 = .ok (.aload_n 0, 1) := by decide +kernel
theorem dX12_init_190 : decode cX12_init 190 = .ok (.sipush 128, 3) := by decide +kernel
theorem dX12_init_193 : decode cX12_init 193 = .ok (.newarray .int, 2) := by decide +kernel
theorem dX12_init_195 : decode cX12_init 195 = .ok (.putfield 46, 3) := by decide +kernel
theorem dX12_init_198 : decode cX12_init 198 = .ok (.aload_n 0, 1) := by decide +kernel
theorem dX12_init_199 : decode cX12_init 199 = .ok (.sipush 128, 3) := by decide +kernel
theorem dX12_init_202 : decode cX12_init 202 = .ok (.newarray .int, 2) := by decide +kernel
theorem dX12_init_204 : decode cX12_init 204 = .ok (.putfield 49, 3) := by decide +kernel
theorem dX12_init_207 : decode cX12_init 207 = .ok (.aload_n 0, 1) := by decide +kernel
theorem dX12_init_208 : decode cX12_init 208 = .ok (.iconst (-1), 1) := by decide +kernel
theorem dX12_init_209 : decode cX12_init 209 = .ok (.putfield 52, 3) := by decide +kernel
theorem dX12_init_212 : decode cX12_init 212 = .ok (.aload_n 0, 1) := by decide +kernel
theorem dX12_init_213 : decode cX12_init 213 = .ok (.bipush 7, 2) := by decide +kernel
theorem dX12_init_215 : decode cX12_init 215 = .ok (.newarray .long, 2) := by decide +kernel
theorem dX12_init_217 : decode cX12_init 217 = .ok (.putfield 56, 3) := by decide +kernel
theorem dX12_init_220 : decode cX12_init 220 = .ok (.aload_n 0, 1) := by decide +kernel
theorem dX12_init_221 : decode cX12_init 221 = .ok (.bipush 64, 2) := by decide +kernel
theorem dX12_init_223 : decode cX12_init 223 = .ok (.newarray .long, 2) := by decide +kernel
theorem dX12_init_225 : decode cX12_init 225 = .ok (.putfield 60, 3) := by decide +kernel
theorem dX12_init_228 : decode cX12_init 228 = .ok (.aload_n 0, 1) := by decide +kernel
theorem dX12_init_229 : decode cX12_init 229 = .ok (.bipush 24, 2) := by decide +kernel
theorem dX12_init_231 : decode cX12_init 231 = .ok (.newarray .int, 2) := by decide +kernel
theorem dX12_init_233 : decode cX12_init 233 = .ok (.putfield 63, 3) := by decide +kernel
theorem dX12_init_236 : decode cX12_init 236 = .ok (.aload_n 0, 1) := by decide +kernel
theorem dX12_init_237 : decode cX12_init 237 = .ok (.bipush 24, 2) := by decide +kernel
theorem dX12_init_239 : decode cX12_init 239 = .ok (.newarray .int, 2) := by decide +kernel
theorem dX12_init_241 : decode cX12_init 241 = .ok (.putfield 66, 3) := by decide +kernel
theorem dX12_init_244 : decode cX12_init 244 = .ok (.aload_n 0, 1) := by decide +kernel
theorem dX12_init_245 : decode cX12_init 245 = .ok (.bipush 24, 2) := by decide +kernel
theorem dX12_init_247 : decode cX12_init 247 = .ok (.newarray .int, 2) := by decide +kernel
theorem dX12_init_249 : decode cX12_init 249 = .ok (.putfield 69, 3) := by decide +kernel
theorem dX12_init_252 : decode cX12_init 252 = .ok (.aload_n 0, 1) := by decide +kernel
theorem dX12_init_253 : decode cX12_init 253 = .ok (.bipush 24, 2) := by decide +kernel
theorem dX12_init_255 : decode cX12_init 255 = .ok (.newarray .int, 2) := by decide +kernel
theorem dX12_init_257 : decode cX12_init 257 = .ok (.putfield 72, 3) := by decide +kernel
theorem dX12_init_260 : decode cX12_init 260 = .ok (.aload_n 0, 1) := by decide +kernel
theorem dX12_init_261 : decode cX12_init 261 = .ok (.bipush 24, 2) := by decide +kernel
theorem dX12_init_263 : decode cX12_init 263 = .ok (.newarray .int, 2) := by decide +kernel
theorem dX12_init_265 : decode cX12_init 265 = .ok (.putfield 75, 3) := by decide +kernel
theorem dX12_init_268 : decode cX12_init 268 = .ok (.aload_n 0, 1) := by decide +kernel
theorem dX12_init_269 : decode cX12_init 269 = .ok (.bipush 24, 2) := by decide +kernel
theorem dX12_init_271 : decode cX12_init 271 = .ok (.newarray .int, 2) := by decide +kernel
theorem dX12_init_273 : decode cX12_init 273 = .ok (.putfield 78, 3) := by decide +kernel
theorem dX12_init_276 : decode cX12_init 276 = .ok (.aload_n 0, 1) := by decide +kernel
theorem dX12_init_277 : decode cX12_init 277 = .ok (.bipush 24, 2) := by decide +kernel
theorem dX12_init_279 : decode cX12_init 279 = .ok (.newarray .int, 2) := by decide +kernel
theorem dX12_init_281 : decode cX12_init 281 = .ok (.putfield 81, 3) := by decide +kernel
theorem dX12_init_284 : decode cX12_init 284 = .ok (.aload_n 0, 1) := by decide +kernel
theorem dX12_init_285 : decode cX12_init 285 = .ok (.bipush 24, 2) := by decide +kernel
theorem dX12_init_287 : decode cX12_init 287 = .ok (.newarray .int, 2) := by decide +kernel
theorem dX12_init_289 : decode cX12_init 289 = .ok (.putfield 84, 3) := by decide +kernel
theorem dX12_init_292 : decode cX12_init 292 = .ok (.aload_n 0, 1) := by decide +kernel
theorem dX12_init_293 : decode cX12_init 293 = .ok (.bipush 24, 2) := by decide +kernel
theorem dX12_init_295 : decode cX12_init 295 = .ok (.newarray .int, 2) := by decide +kernel
theorem dX12_init_297 : decode cX12_init 297 = .ok (.putfield 87, 3) := by decide +kernel
theorem dX12_init_300 : decode cX12_init 300 = .ok (.aload_n 0, 1) := by decide +kernel
theorem dX12_init_301 : decode cX12_init 301 = .ok (.sipush 192, 3) := by decide +kernel
theorem dX12_init_304 : decode cX12_init 304 = .ok (.newarray .int, 2) := by decide +kernel
theorem dX12_init_306 : decode cX12_init 306 = .ok (.putfield 90, 3) := by decide +kernel
theorem dX12_init_309 : decode cX12_init 309 = .ok (.aload_n 0, 1) := by decide +kernel
theorem dX12_init_310 : decode cX12_init 310 = .ok (.sipush 192, 3) := by decide +kernel
theorem dX12_init_313 : decode cX12_init 313 = .ok (.newarray .int, 2) := by decide +kernel
theorem dX12_init_315 : decode cX12_init 315 = .ok (.putfield 93, 3) := by decide +kernel
theorem dX12_init_318 : decode cX12_init 318 = .ok (.aload_n 0, 1) := by decide +kernel
theorem dX12_init_319 : decode cX12_init 319 = .ok (.sipush 192, 3) := by decide +kernel
theorem dX12_init_322 : decode cX12_init 322 = .ok (.newarray .int, 2) := by decide +kernel
theorem dX12_init_324 : decode cX12_init 324 = .ok (.putfield 96, 3) := by decide +kernel
theorem dX12_init_327 : decode cX12_init 327 = .ok (.aload_n 0, 1) := by decide +kernel
theorem dX12_init_328 : decode cX12_init 328 = .ok (.iconst (-1), 1) := by decide +kernel
theorem dX12_init_329 : decode cX12_init 329 = .ok (.putfield 99, 3) := by decide +kernel
theorem dX12_init_332 : decode cX12_init 332 = .ok (.aload_n 0, 1) := by decide +kernel
theorem dX12_init_333 : decode cX12_init 333 = .ok (.iconst (-1), 1) := by decide +kernel
theorem dX12_init_334 : decode cX12_init 334 = .ok (.putfield 102, 3) := by decide +kernel
theorem dX12_init_337 : decode cX12_init 337 = .ok (.aload_n 0, 1) := by decide +kernel
theorem dX12_init_338 : decode cX12_init 338 = .ok (.iconst (-1), 1) := by decide +kernel
theorem dX12_init_339 : decode cX12_init 339 = .ok (.putfield 105, 3) := by decide +kernel
theorem dX12_init_342 : decode cX12_init 342 = .ok (.aload_n 0, 1) := by decide +kernel
theorem dX12_init_343 : decode cX12_init 343 = .ok (.sipush 504, 3) := by decide +kernel
theorem dX12_init_346 : decode cX12_init 346 = .ok (.newarray .int, 2) := by decide +kernel
theorem dX12_init_348 : decode cX12_init 348 = .ok (.putfield 108, 3) := by decide +kernel
theorem dX12_init_351 : decode cX12_init 351 = .ok (.aload_n 0, 1) := by decide +kernel
theorem dX12_init_352 : decode cX12_init 352 = .ok (.sipush 504, 3) := by decide +kernel
theorem dX12_init_355 : decode cX12_init 355 = .ok (.newarray .int, 2) := by decide +kernel
theorem dX12_init_357 : decode cX12_init 357 = .ok (.putfield 111, 3) := by decide +kernel
theorem dX12_init_360 : decode cX12_init 360 = .ok (.aload_n 0, 1) := by decide +kernel
theorem dX12_init_361 : decode cX12_init 361 = .ok (.bipush 8, 2) := by decide +kernel
theorem dX12_init_363 : decode cX12_init 363 = .ok (.newarray .int, 2) := by decide +kernel
theorem dX12_init_365 : decode cX12_init 365 = .ok (.putfield 114, 3) := by decide +kernel
theorem dX12_init_368 : decode cX12_init 368 = .ok (.aload_n 0, 1) := by decide +kernel
theorem dX12_init_369 : decode cX12_init 369 = .ok (.bipush 8, 2) := by decide +kernel
theorem dX12_init_371 : decode cX12_init 371 = .ok (.newarray .int, 2) := by decide +kernel
theorem dX12_init_373 : decode cX12_init 373 = .ok (.putfield 117, 3) := by decide +kernel
theorem dX12_init_376 : decode cX12_init 376 = .ok (.aload_n 0, 1) := by decide +kernel
theorem dX12_init_377 : decode cX12_init 377 = .ok (.bipush 8, 2) := by decide +kernel
theorem dX12_init_379 : decode cX12_init 379 = .ok (.newarray .int, 2) := by decide +kernel
theorem dX12_init_381 : decode cX12_init 381 = .ok (.putfield 120, 3) := by decide +kernel
theorem dX12_init_384 : decode cX12_init 384 = .ok (.aload_n 0, 1) := by decide +kernel
theorem dX12_init_385 : decode cX12_init 385 = .ok (.iconst (-1), 1) := by decide +kernel
theorem dX12_init_386 : decode cX12_init 386 = .ok (.putfield 123, 3) := by decide +kernel
theorem dX12_init_389 : decode cX12_init 389 = .ok (.aload_n 0, 1) := by decide +kernel
theorem dX12_init_390 : decode cX12_init 390 = .ok (.bipush 24, 2) := by decide +kernel
theorem dX12_init_392 : decode cX12_init 392 = .ok (.newarray .int, 2) := by decide +kernel
theorem dX12_init_394 : decode cX12_init 394 = .ok (.putfield 126, 3) := by decide +kernel
theorem dX12_init_397 : decode cX12_init 397 = .ok (.aload_n 0, 1) := by decide +kernel
theorem dX12_init_398 : decode cX12_init 398 = .ok (.bipush 24, 2) := by decide +kernel
theorem dX12_init_400 : decode cX12_init 400 = .ok (.newarray .int, 2) := by decide +kernel
theorem dX12_init_402 : decode cX12_init 402 = .ok (.putfield 129, 3) := by decide +kernel
theorem dX12_init_405 : decode cX12_init 405 = .ok (.aload_n 0, 1) := by decide +kernel
theorem dX12_init_406 : decode cX12_init 406 = .ok (.bipush 24, 2) := by decide +kernel
theorem dX12_init_408 : decode cX12_init 408 = .ok (.newarray .boolean, 2) := by decide +kernel
theorem dX12_init_410 : decode cX12_init 410 = .ok (.putfield 132, 3) := by decide +kernel
theorem dX12_init_413 : decode cX12_init 413 = .ok (.aload_n 0, 1) := by decide +kernel
theorem dX12_init_414 : decode cX12_init 414 = .ok (.bipush 24, 2) := by decide +kernel
theorem dX12_init_416 : decode cX12_init 416 = .ok (.newarray .int, 2) := by decide +kernel
theorem dX12_init_418 : decode cX12_init 418 = .ok (.putfield 136, 3) := by decide +kernel
theorem dX12_init_421 : decode cX12_init 421 = .ok (.aload_n 0, 1) := by decide +kernel
theorem dX12_init_422 : decode cX12_init 422 = .ok (.bipush 24, 2) := by decide +kernel
theorem dX12_init_424 : decode cX12_init 424 = .ok (.newarray .boolean, 2) := by decide +kernel
theorem dX12_init_426 : decode cX12_init 426 = .ok (.putfield 139, 3) := by decide +kernel
theorem dX12_init_429 : decode cX12_init 429 = .ok (.aload_n 0, 1) := by decide +kernel
theorem dX12_init_430 : decode cX12_init 430 = .ok (.invokevirtual 142, 3) := by decide +kernel
theorem dX12_init_433 : decode cX12_init 433 = .ok (.return_, 1) := by decide +kernel
theorem dX12_thrown_0 : decode cX12_thrown 0 = .ok (.aload_n 0, 1) := by decide +kernel
theorem dX12_thrown_1 : decode cX12_thrown 1 = .ok (.getfield 145, 3) := by decide +kernel
theorem dX12_thrown_4 : decode cX12_thrown 4 = .ok (.ireturn, 1) := by decide +kernel
theorem dX12_feed_0 : decode cX12_feed 0 = .ok (.aload_n 0, 1) := by decide +kernel
theorem dX12_feed_1 : decode cX12_feed 1 = .ok (.iconst 0, 1) := by decide +kernel
theorem dX12_feed_2 : decode cX12_feed 2 = .ok (.putfield 145, 3) := by decide +kernel
theorem dX12_feed_5 : decode cX12_feed 5 = .ok (.aload_n 0, 1) := by decide +kernel
theorem dX12_feed_6 : decode cX12_feed 6 = .ok (.getfield 148, 3) := by decide +kernel
theorem dX12_feed_9 : decode cX12_feed 9 = .ok (.sipush 680, 3) := by decide +kernel
theorem dX12_feed_12 : decode cX12_feed 12 = .ok (.if_icmp .le 5, 3) := by decide +kernel
theorem dX12_feed_15 : decode cX12_feed 15 = .ok (.iconst (-1), 1) := by decide +kernel
theorem dX12_feed_16 : decode cX12_feed 16 = .ok (.ireturn, 1) := by decide +kernel
theorem dX12_feed_17 : decode cX12_feed 17 = .ok (.iconst 0, 1) := by decide +kernel
theorem dX12_feed_18 : decode cX12_feed 18 = .ok (.istore 6, 2) := by decide +kernel
theorem dX12_feed_20 : decode cX12_feed 20 = .ok (.iload 6, 2) := by decide +kernel
theorem dX12_feed_22 : decode cX12_feed 22 = .ok (.bipush 20, 2) := by decide +kernel
theorem dX12_feed_24 : decode cX12_feed 24 = .ok (.if_icmp .ge 86, 3) := by decide +kernel
theorem dX12_feed_27 : decode cX12_feed 27 = .ok (.iload 6, 2) := by decide +kernel
theorem dX12_feed_29 : decode cX12_feed 29 = .ok (.iconst 4, 1) := by decide +kernel
theorem dX12_feed_30 : decode cX12_feed 30 = .ok (.if_icmp .ge 7, 3) := by decide +kernel
theorem dX12_feed_33 : decode cX12_feed 33 = .ok (.iload_n 1, 1) := by decide +kernel
theorem dX12_feed_34 : decode cX12_feed 34 = .ok (.goto 39, 3) := by decide +kernel
theorem dX12_feed_37 : decode cX12_feed 37 = .ok (.iload 6, 2) := by decide +kernel
theorem dX12_feed_39 : decode cX12_feed 39 = .ok (.bipush 8, 2) := by decide +kernel
theorem dX12_feed_41 : decode cX12_feed 41 = .ok (.if_icmp .ge 7, 3) := by decide +kernel
theorem dX12_feed_44 : decode cX12_feed 44 = .ok (.iload_n 2, 1) := by decide +kernel
theorem dX12_feed_45 : decode cX12_feed 45 = .ok (.goto 28, 3) := by decide +kernel
theorem dX12_feed_48 : decode cX12_feed 48 = .ok (.iload 6, 2) := by decide +kernel
theorem dX12_feed_50 : decode cX12_feed 50 = .ok (.bipush 12, 2) := by decide +kernel
theorem dX12_feed_52 : decode cX12_feed 52 = .ok (.if_icmp .ge 7, 3) := by decide +kernel
theorem dX12_feed_55 : decode cX12_feed 55 = .ok (.iload_n 3, 1) := by decide +kernel
theorem dX12_feed_56 : decode cX12_feed 56 = .ok (.goto 17, 3) := by decide +kernel
theorem dX12_feed_59 : decode cX12_feed 59 = .ok (.iload 6, 2) := by decide +kernel
theorem dX12_feed_61 : decode cX12_feed 61 = .ok (.bipush 16, 2) := by decide +kernel
theorem dX12_feed_63 : decode cX12_feed 63 = .ok (.if_icmp .ge 8, 3) := by decide +kernel
theorem dX12_feed_66 : decode cX12_feed 66 = .ok (.iload 4, 2) := by decide +kernel
theorem dX12_feed_68 : decode cX12_feed 68 = .ok (.goto 5, 3) := by decide +kernel
theorem dX12_feed_71 : decode cX12_feed 71 = .ok (.iload 5, 2) := by decide +kernel
theorem dX12_feed_73 : decode cX12_feed 73 = .ok (.istore 7, 2) := by decide +kernel
theorem dX12_feed_75 : decode cX12_feed 75 = .ok (.aload_n 0, 1) := by decide +kernel
theorem dX12_feed_76 : decode cX12_feed 76 = .ok (.getfield 7, 3) := by decide +kernel
theorem dX12_feed_79 : decode cX12_feed 79 = .ok (.aload_n 0, 1) := by decide +kernel
theorem dX12_feed_80 : decode cX12_feed 80 = .ok (.getfield 148, 3) := by decide +kernel
theorem dX12_feed_83 : decode cX12_feed 83 = .ok (.iload 6, 2) := by decide +kernel
theorem dX12_feed_85 : decode cX12_feed 85 = .ok (.iadd, 1) := by decide +kernel
theorem dX12_feed_86 : decode cX12_feed 86 = .ok (.iload 7, 2) := by decide +kernel
theorem dX12_feed_88 : decode cX12_feed 88 = .ok (.bipush 24, 2) := by decide +kernel
theorem dX12_feed_90 : decode cX12_feed 90 = .ok (.bipush 8, 2) := by decide +kernel
theorem dX12_feed_92 : decode cX12_feed 92 = .ok (.iload 6, 2) := by decide +kernel
theorem dX12_feed_94 : decode cX12_feed 94 = .ok (.iconst 4, 1) := by decide +kernel
theorem dX12_feed_95 : decode cX12_feed 95 = .ok (.irem, 1) := by decide +kernel
theorem dX12_feed_96 : decode cX12_feed 96 = .ok (.imul, 1) := by decide +kernel
theorem dX12_feed_97 : decode cX12_feed 97 = .ok (.isub, 1) := by decide +kernel
theorem dX12_feed_98 : decode cX12_feed 98 = .ok (.ishr, 1) := by decide +kernel
theorem dX12_feed_99 : decode cX12_feed 99 = .ok (.sipush 255, 3) := by decide +kernel
theorem dX12_feed_102 : decode cX12_feed 102 = .ok (.iand, 1) := by decide +kernel
theorem dX12_feed_103 : decode cX12_feed 103 = .ok (.iastore, 1) := by decide +kernel
theorem dX12_feed_104 : decode cX12_feed 104 = .ok (.iinc 6 1, 3) := by decide +kernel
theorem dX12_feed_107 : decode cX12_feed 107 = .ok (.goto (-87), 3) := by decide +kernel
theorem dX12_feed_110 : decode cX12_feed 110 = .ok (.aload_n 0, 1) := by decide +kernel
theorem dX12_feed_111 : decode cX12_feed 111 = .ok (.dup, 1) := by decide +kernel
theorem dX12_feed_112 : decode cX12_feed 112 = .ok (.getfield 148, 3) := by decide +kernel
theorem dX12_feed_115 : decode cX12_feed 115 = .ok (.bipush 20, 2) := by decide +kernel
theorem dX12_feed_117 : decode cX12_feed 117 = .ok (.iadd, 1) := by decide +kernel
theorem dX12_feed_118 : decode cX12_feed 118 = .ok (.putfield 148, 3) := by decide +kernel
theorem dX12_feed_121 : decode cX12_feed 121 = .ok (.aload_n 0, 1) := by decide +kernel
theorem dX12_feed_122 : decode cX12_feed 122 = .ok (.getfield 148, 3) := by decide +kernel
theorem dX12_feed_125 : decode cX12_feed 125 = .ok (.ireturn, 1) := by decide +kernel
theorem dX12_here_0 : decode cX12_here 0 = .ok (.aload_n 0, 1) := by decide +kernel
theorem dX12_here_1 : decode cX12_here 1 = .ok (.getfield 151, 3) := by decide +kernel
theorem dX12_here_4 : decode cX12_here 4 = .ok (.aload_n 0, 1) := by decide +kernel
theorem dX12_here_5 : decode cX12_here 5 = .ok (.getfield 154, 3) := by decide +kernel
theorem dX12_here_8 : decode cX12_here 8 = .ok (.if_icmp .ge 15, 3) := by decide +kernel
theorem dX12_here_11 : decode cX12_here 11 = .ok (.aload_n 0, 1) := by decide +kernel
theorem dX12_here_12 : decode cX12_here 12 = .ok (.getfield 7, 3) := by decide +kernel
theorem dX12_here_15 : decode cX12_here 15 = .ok (.aload_n 0, 1) := by decide +kernel
theorem dX12_here_16 : decode cX12_here 16 = .ok (.getfield 151, 3) := by decide +kernel
theorem dX12_here_19 : decode cX12_here 19 = .ok (.iaload, 1) := by decide +kernel
theorem dX12_here_20 : decode cX12_here 20 = .ok (.goto 4, 3) := by decide +kernel
theorem dX12_here_23 : decode cX12_here 23 = .ok (.iconst (-1), 1) := by decide +kernel
theorem dX12_here_24 : decode cX12_here 24 = .ok (.ireturn, 1) := by decide +kernel
theorem dX12_isSmall_0 : decode cX12_isSmall 0 = .ok (.iload_n 0, 1) := by decide +kernel
theorem dX12_isSmall_1 : decode cX12_isSmall 1 = .ok (.bipush 97, 2) := by decide +kernel
theorem dX12_isSmall_3 : decode cX12_isSmall 3 = .ok (.if_icmp .lt 13, 3) := by decide +kernel
theorem dX12_isSmall_6 : decode cX12_isSmall 6 = .ok (.iload_n 0, 1) := by decide +kernel
theorem dX12_isSmall_7 : decode cX12_isSmall 7 = .ok (.bipush 122, 2) := by decide +kernel
theorem dX12_isSmall_9 : decode cX12_isSmall 9 = .ok (.if_icmp .gt 7, 3) := by decide +kernel
theorem dX12_isSmall_12 : decode cX12_isSmall 12 = .ok (.iconst 1, 1) := by decide +kernel
theorem dX12_isSmall_13 : decode cX12_isSmall 13 = .ok (.goto 4, 3) := by decide +kernel
theorem dX12_isSmall_16 : decode cX12_isSmall 16 = .ok (.iconst 0, 1) := by decide +kernel
theorem dX12_isSmall_17 : decode cX12_isSmall 17 = .ok (.ireturn, 1) := by decide +kernel
theorem dX12_isDigit_0 : decode cX12_isDigit 0 = .ok (.iload_n 0, 1) := by decide +kernel
theorem dX12_isDigit_1 : decode cX12_isDigit 1 = .ok (.bipush 48, 2) := by decide +kernel
theorem dX12_isDigit_3 : decode cX12_isDigit 3 = .ok (.if_icmp .lt 13, 3) := by decide +kernel
theorem dX12_isDigit_6 : decode cX12_isDigit 6 = .ok (.iload_n 0, 1) := by decide +kernel
theorem dX12_isDigit_7 : decode cX12_isDigit 7 = .ok (.bipush 57, 2) := by decide +kernel
theorem dX12_isDigit_9 : decode cX12_isDigit 9 = .ok (.if_icmp .gt 7, 3) := by decide +kernel
theorem dX12_isDigit_12 : decode cX12_isDigit 12 = .ok (.iconst 1, 1) := by decide +kernel
theorem dX12_isDigit_13 : decode cX12_isDigit 13 = .ok (.goto 4, 3) := by decide +kernel
theorem dX12_isDigit_16 : decode cX12_isDigit 16 = .ok (.iconst 0, 1) := by decide +kernel
theorem dX12_isDigit_17 : decode cX12_isDigit 17 = .ok (.ireturn, 1) := by decide +kernel
set_option maxRecDepth 20000 in
theorem ggX12_token_X12_here : GoodIn wsX12_token wsX12_here := goodIn_r _ [10, 1, 11, 12, 80, 81, 82, 83, 84, 85, 86, 87, 88, 89, 90, 91, 92, 93, 94, 95, 96, 97, 98, 99, 100, 101, 102, 103, 104, 105, 106, 107, 108, 109, 110, 111, 112, 113, 114, 115, 116, 117, 118, 119, 120, 121, 122, 123, 124, 125, 126, 127, 128, 129, 130, 131, 132, 133, 134, 135, 136, 137, 138, 139, 140, 141, 142, 143, 144, 145] rfl (by decide +kernel)
set_option maxRecDepth 20000 in
theorem gX12_token_X12_here : GoodIn wsX12_token (wsV RX12 157 RX12 yX12_here wsX12_here) := goodIn_app (goodIn_r _ [6, 7, 8, 9] rfl (by decide +kernel)) ggX12_token_X12_here
set_option maxRecDepth 20000 in
theorem ggX12_token_X12_isSmall : GoodIn wsX12_token wsX12_isSmall := goodIn_r _ [15] rfl (by decide +kernel)
set_option maxRecDepth 20000 in
theorem gX12_token_X12_isSmall : GoodIn wsX12_token (va_wsS RX12 167 yX12_isSmall wsX12_isSmall) := goodIn_app (goodIn_of _ (by decide +kernel)) ggX12_token_X12_isSmall
set_option maxRecDepth 20000 in
theorem ggX12_token_X12_word : GoodIn wsX12_token wsX12_word := goodIn_r _ [19, 2, 1, 12, 20, 21, 22, 23, 24, 25, 26, 27, 28, 29, 30, 31, 32, 33, 34, 35, 36, 37, 38, 39, 40, 41, 42, 43, 44, 45, 46, 47, 48, 49, 50, 51, 52, 53, 54, 55, 56, 57, 58, 59, 60, 61, 62, 63, 64, 65, 66, 67, 68, 80, 81, 82, 83, 84, 85, 86, 87, 88, 89, 90, 91, 92, 93, 94, 95, 96, 97, 98, 99, 100, 101, 102, 103, 104, 105, 106, 107, 108, 109, 110, 111, 112, 113, 114, 115, 116, 117, 118, 119, 120, 121, 122, 123, 124, 125, 126, 127, 128, 129, 130, 131, 132, 133, 134, 135, 136, 137, 138, 139, 140, 141, 142, 143, 144, 145] rfl (by decide +kernel)
set_option maxRecDepth 20000 in
theorem gX12_token_X12_word : GoodIn wsX12_token (wsV RX12 171 RX12 yX12_word wsX12_word) := goodIn_app (goodIn_r _ [16, 17, 18, 9] rfl (by decide +kernel)) ggX12_token_X12_word
set_option maxRecDepth 20000 in
theorem ggX12_token_X12_name : GoodIn wsX12_token wsX12_name := goodIn_r _ [72, 4, 2, 1, 12, 80, 81, 82, 83, 84, 85, 86, 87, 88, 89, 90, 91, 92, 93, 94, 95, 96, 97, 98, 99, 100, 101, 102, 103, 104, 105, 106, 107, 108, 109, 110, 111, 112, 113, 114, 115, 116, 117, 118, 119, 120, 121, 122, 123, 124, 125, 126, 127, 128, 129, 130, 131, 132, 133, 134, 135, 136, 137, 138, 139, 140, 141, 142, 143, 144, 145] rfl (by decide +kernel)
set_option maxRecDepth 20000 in
theorem gX12_token_X12_name : GoodIn wsX12_token (wsV RX12 177 RX12 yX12_name wsX12_name) := goodIn_app (goodIn_r _ [69, 70, 71, 9] rfl (by decide +kernel)) ggX12_token_X12_name
set_option maxRecDepth 20000 in
theorem ggX12_token_X12_isDigit : GoodIn wsX12_token wsX12_isDigit := goodIn_r _ [75] rfl (by decide +kernel)
set_option maxRecDepth 20000 in
theorem gX12_token_X12_isDigit : GoodIn wsX12_token (va_wsS RX12 180 yX12_isDigit wsX12_isDigit) := goodIn_app (goodIn_of _ (by decide +kernel)) ggX12_token_X12_isDigit
set_option maxRecDepth 20000 in
theorem ggX12_token_X12_sign : GoodIn wsX12_token wsX12_sign := goodIn_r _ [79, 1, 3, 4, 6, 7, 8, 9, 10, 11, 12, 80, 81, 82, 83, 84, 85, 86, 87, 88, 89, 90, 91, 92, 93, 94, 95, 96, 97, 98, 99, 100, 101, 102, 103, 104, 105, 106, 107, 108, 109, 110, 111, 112, 113, 114, 115, 116, 117, 118, 119, 120, 121, 122, 123, 124, 125, 126, 127, 128, 129, 130, 131, 132, 133, 134, 135, 136, 137, 138, 139, 140, 141, 142, 143, 144, 145] rfl (by decide +kernel)
set_option maxRecDepth 20000 in
theorem gX12_token_X12_sign : GoodIn wsX12_token (wsV RX12 184 RX12 yX12_sign wsX12_sign) := goodIn_app (goodIn_r _ [76, 77, 78, 9] rfl (by decide +kernel)) ggX12_token_X12_sign
theorem dX12_token_0 : decode cX12_token 0 = .ok (.aload_n 0, 1) := by decide +kernel
theorem dX12_token_1 : decode cX12_token 1 = .ok (.invokevirtual 157, 3) := by decide +kernel
theorem dX12_token_4 : decode cX12_token 4 = .ok (.bipush 10, 2) := by decide +kernel
theorem dX12_token_6 : decode cX12_token 6 = .ok (.if_icmp .eq 12, 3) := by decide +kernel
theorem dX12_token_9 : decode cX12_token 9 = .ok (.aload_n 0, 1) := by decide +kernel
theorem dX12_token_10 : decode cX12_token 10 = .ok (.invokevirtual 157, 3) := by decide +kernel
theorem dX12_token_13 : decode cX12_token 13 = .ok (.bipush 32, 2) := by decide +kernel
theorem dX12_token_15 : decode cX12_token 15 = .ok (.if_icmp .ne 16, 3) := by decide +kernel
theorem dX12_token_18 : decode cX12_token 18 = .ok (.aload_n 0, 1) := by decide +kernel
theorem dX12_token_19 : decode cX12_token 19 = .ok (.dup, 1) := by decide +kernel
theorem dX12_token_20 : decode cX12_token 20 = .ok (.getfield 151, 3) := by decide +kernel
theorem dX12_token_23 : decode cX12_token 23 = .ok (.iconst 1, 1) := by decide +kernel
theorem dX12_token_24 : decode cX12_token 24 = .ok (.iadd, 1) := by decide +kernel
theorem dX12_token_25 : decode cX12_token 25 = .ok (.putfield 151, 3) := by decide +kernel
theorem dX12_token_28 : decode cX12_token 28 = .ok (.goto (-28), 3) := by decide +kernel
theorem dX12_token_31 : decode cX12_token 31 = .ok (.aload_n 0, 1) := by decide +kernel
theorem dX12_token_32 : decode cX12_token 32 = .ok (.aload_n 0, 1) := by decide +kernel
theorem dX12_token_33 : decode cX12_token 33 = .ok (.getfield 151, 3) := by decide +kernel
theorem dX12_token_36 : decode cX12_token 36 = .ok (.putfield 161, 3) := by decide +kernel
theorem dX12_token_39 : decode cX12_token 39 = .ok (.aload_n 0, 1) := by decide +kernel
theorem dX12_token_40 : decode cX12_token 40 = .ok (.invokevirtual 157, 3) := by decide +kernel
theorem dX12_token_43 : decode cX12_token 43 = .ok (.istore_n 1, 1) := by decide +kernel
theorem dX12_token_44 : decode cX12_token 44 = .ok (.iload_n 1, 1) := by decide +kernel
theorem dX12_token_45 : decode cX12_token 45 = .ok (.iconst (-1), 1) := by decide +kernel
theorem dX12_token_46 : decode cX12_token 46 = .ok (.if_icmp .ne 11, 3) := by decide +kernel
theorem dX12_token_49 : decode cX12_token 49 = .ok (.aload_n 0, 1) := by decide +kernel
theorem dX12_token_50 : decode cX12_token 50 = .ok (.iconst 4, 1) := by decide +kernel
theorem dX12_token_51 : decode cX12_token 51 = .ok (.putfield 164, 3) := by decide +kernel
theorem dX12_token_54 : decode cX12_token 54 = .ok (.goto 171, 3) := by decide +kernel
theorem dX12_token_57 : decode cX12_token 57 = .ok (.iload_n 1, 1) := by decide +kernel
theorem dX12_token_58 : decode cX12_token 58 = .ok (.invokestatic 167, 3) := by decide +kernel
theorem dX12_token_61 : decode cX12_token 61 = .ok (.ifCond .eq 84, 3) := by decide +kernel
theorem dX12_token_64 : decode cX12_token 64 = .ok (.aload_n 0, 1) := by decide +kernel
theorem dX12_token_65 : decode cX12_token 65 = .ok (.invokevirtual 157, 3) := by decide +kernel
theorem dX12_token_68 : decode cX12_token 68 = .ok (.invokestatic 167, 3) := by decide +kernel
theorem dX12_token_71 : decode cX12_token 71 = .ok (.ifCond .eq 16, 3) := by decide +kernel
theorem dX12_token_74 : decode cX12_token 74 = .ok (.aload_n 0, 1) := by decide +kernel
theorem dX12_token_75 : decode cX12_token 75 = .ok (.dup, 1) := by decide +kernel
theorem dX12_token_76 : decode cX12_token 76 = .ok (.getfield 151, 3) := by decide +kernel
theorem dX12_token_79 : decode cX12_token 79 = .ok (.iconst 1, 1) := by decide +kernel
theorem dX12_token_80 : decode cX12_token 80 = .ok (.iadd, 1) := by decide +kernel
theorem dX12_token_81 : decode cX12_token 81 = .ok (.putfield 151, 3) := by decide +kernel
theorem dX12_token_84 : decode cX12_token 84 = .ok (.goto (-20), 3) := by decide +kernel
theorem dX12_token_87 : decode cX12_token 87 = .ok (.aload_n 0, 1) := by decide +kernel
theorem dX12_token_88 : decode cX12_token 88 = .ok (.aload_n 0, 1) := by decide +kernel
theorem dX12_token_89 : decode cX12_token 89 = .ok (.invokevirtual 171, 3) := by decide +kernel
theorem dX12_token_92 : decode cX12_token 92 = .ok (.putfield 174, 3) := by decide +kernel
theorem dX12_token_95 : decode cX12_token 95 = .ok (.aload_n 0, 1) := by decide +kernel
theorem dX12_token_96 : decode cX12_token 96 = .ok (.aload_n 0, 1) := by decide +kernel
theorem dX12_token_97 : decode cX12_token 97 = .ok (.getfield 174, 3) := by decide +kernel
theorem dX12_token_100 : decode cX12_token 100 = .ok (.iconst (-1), 1) := by decide +kernel
theorem dX12_token_101 : decode cX12_token 101 = .ok (.if_icmp .eq 7, 3) := by decide +kernel
theorem dX12_token_104 : decode cX12_token 104 = .ok (.iconst 0, 1) := by decide +kernel
theorem dX12_token_105 : decode cX12_token 105 = .ok (.goto 22, 3) := by decide +kernel
theorem dX12_token_108 : decode cX12_token 108 = .ok (.aload_n 0, 1) := by decide +kernel
theorem dX12_token_109 : decode cX12_token 109 = .ok (.getfield 151, 3) := by decide +kernel
theorem dX12_token_112 : decode cX12_token 112 = .ok (.aload_n 0, 1) := by decide +kernel
theorem dX12_token_113 : decode cX12_token 113 = .ok (.getfield 161, 3) := by decide +kernel
theorem dX12_token_116 : decode cX12_token 116 = .ok (.isub, 1) := by decide +kernel
theorem dX12_token_117 : decode cX12_token 117 = .ok (.bipush 6, 2) := by decide +kernel
theorem dX12_token_119 : decode cX12_token 119 = .ok (.if_icmp .le 7, 3) := by decide +kernel
theorem dX12_token_122 : decode cX12_token 122 = .ok (.iconst 5, 1) := by decide +kernel
theorem dX12_token_123 : decode cX12_token 123 = .ok (.goto 4, 3) := by decide +kernel
theorem dX12_token_126 : decode cX12_token 126 = .ok (.iconst 1, 1) := by decide +kernel
theorem dX12_token_127 : decode cX12_token 127 = .ok (.putfield 164, 3) := by decide +kernel
theorem dX12_token_130 : decode cX12_token 130 = .ok (.aload_n 0, 1) := by decide +kernel
theorem dX12_token_131 : decode cX12_token 131 = .ok (.getfield 164, 3) := by decide +kernel
theorem dX12_token_134 : decode cX12_token 134 = .ok (.iconst 1, 1) := by decide +kernel
theorem dX12_token_135 : decode cX12_token 135 = .ok (.if_icmp .ne 90, 3) := by decide +kernel
theorem dX12_token_138 : decode cX12_token 138 = .ok (.aload_n 0, 1) := by decide +kernel
theorem dX12_token_139 : decode cX12_token 139 = .ok (.invokevirtual 177, 3) := by decide +kernel
theorem dX12_token_142 : decode cX12_token 142 = .ok (.goto 83, 3) := by decide +kernel
theorem dX12_token_145 : decode cX12_token 145 = .ok (.iload_n 1, 1) := by decide +kernel
theorem dX12_token_146 : decode cX12_token 146 = .ok (.invokestatic 180, 3) := by decide +kernel
theorem dX12_token_149 : decode cX12_token 149 = .ok (.ifCond .eq 71, 3) := by decide +kernel
theorem dX12_token_152 : decode cX12_token 152 = .ok (.aload_n 0, 1) := by decide +kernel
theorem dX12_token_153 : decode cX12_token 153 = .ok (.iconst 2, 1) := by decide +kernel
theorem dX12_token_154 : decode cX12_token 154 = .ok (.putfield 164, 3) := by decide +kernel
theorem dX12_token_157 : decode cX12_token 157 = .ok (.aload_n 0, 1) := by decide +kernel
theorem dX12_token_158 : decode cX12_token 158 = .ok (.iconst 0, 1) := by decide +kernel
theorem dX12_token_159 : decode cX12_token 159 = .ok (.putfield 174, 3) := by decide +kernel
theorem dX12_token_162 : decode cX12_token 162 = .ok (.aload_n 0, 1) := by decide +kernel
theorem dX12_token_163 : decode cX12_token 163 = .ok (.invokevirtual 157, 3) := by decide +kernel
theorem dX12_token_166 : decode cX12_token 166 = .ok (.invokestatic 180, 3) := by decide +kernel
theorem dX12_token_169 : decode cX12_token 169 = .ok (.ifCond .eq 56, 3) := by decide +kernel
theorem dX12_token_172 : decode cX12_token 172 = .ok (.aload_n 0, 1) := by decide +kernel
theorem dX12_token_173 : decode cX12_token 173 = .ok (.aload_n 0, 1) := by decide +kernel
theorem dX12_token_174 : decode cX12_token 174 = .ok (.getfield 174, 3) := by decide +kernel
theorem dX12_token_177 : decode cX12_token 177 = .ok (.ldc 183, 2) := by decide +kernel
theorem dX12_token_179 : decode cX12_token 179 = .ok (.if_icmp .le 10, 3) := by decide +kernel
theorem dX12_token_182 : decode cX12_token 182 = .ok (.aload_n 0, 1) := by decide +kernel
theorem dX12_token_183 : decode cX12_token 183 = .ok (.getfield 174, 3) := by decide +kernel
theorem dX12_token_186 : decode cX12_token 186 = .ok (.goto 18, 3) := by decide +kernel
theorem dX12_token_189 : decode cX12_token 189 = .ok (.bipush 10, 2) := by decide +kernel
theorem dX12_token_191 : decode cX12_token 191 = .ok (.aload_n 0, 1) := by decide +kernel
theorem dX12_token_192 : decode cX12_token 192 = .ok (.getfield 174, 3) := by decide +kernel
theorem dX12_token_195 : decode cX12_token 195 = .ok (.imul, 1) := by decide +kernel
theorem dX12_token_196 : decode cX12_token 196 = .ok (.aload_n 0, 1) := by decide +kernel
theorem dX12_token_197 : decode cX12_token 197 = .ok (.invokevirtual 157, 3) := by decide +kernel
theorem dX12_token_200 : decode cX12_token 200 = .ok (.iadd, 1) := by decide +kernel
theorem dX12_token_201 : decode cX12_token 201 = .ok (.bipush 48, 2) := by decide +kernel
theorem dX12_token_203 : decode cX12_token 203 = .ok (.isub, 1) := by decide +kernel
theorem dX12_token_204 : decode cX12_token 204 = .ok (.putfield 174, 3) := by decide +kernel
theorem dX12_token_207 : decode cX12_token 207 = .ok (.aload_n 0, 1) := by decide +kernel
theorem dX12_token_208 : decode cX12_token 208 = .ok (.dup, 1) := by decide +kernel
theorem dX12_token_209 : decode cX12_token 209 = .ok (.getfield 151, 3) := by decide +kernel
theorem dX12_token_212 : decode cX12_token 212 = .ok (.iconst 1, 1) := by decide +kernel
theorem dX12_token_213 : decode cX12_token 213 = .ok (.iadd, 1) := by decide +kernel
theorem dX12_token_214 : decode cX12_token 214 = .ok (.putfield 151, 3) := by decide +kernel
theorem dX12_token_217 : decode cX12_token 217 = .ok (.goto (-55), 3) := by decide +kernel
theorem dX12_token_220 : decode cX12_token 220 = .ok (.aload_n 0, 1) := by decide +kernel
theorem dX12_token_221 : decode cX12_token 221 = .ok (.iload_n 1, 1) := by decide +kernel
theorem dX12_token_222 : decode cX12_token 222 = .ok (.invokevirtual 184, 3) := by decide +kernel
theorem dX12_token_225 : decode cX12_token 225 = .ok (.return_, 1) := by decide +kernel
set_option maxRecDepth 20000 in
theorem ggX12_sign_X12_here : GoodIn wsX12_sign wsX12_here := goodIn_r _ [8, 1, 9, 10, 11, 12, 13, 14, 15, 16, 17, 18, 19, 20, 21, 22, 23, 24, 25, 26, 27, 28, 29, 30, 31, 32, 33, 34, 35, 36, 37, 38, 39, 40, 41, 42, 43, 44, 45, 46, 47, 48, 49, 50, 51, 52, 53, 54, 55, 56, 57, 58, 59, 60, 61, 62, 63, 64, 65, 66, 67, 68, 69, 70, 71, 72, 73, 74, 75, 76] rfl (by decide +kernel)
set_option maxRecDepth 20000 in
theorem gX12_sign_X12_here : GoodIn wsX12_sign (wsV RX12 157 RX12 yX12_here wsX12_here) := goodIn_app (goodIn_r _ [4, 5, 6, 7] rfl (by decide +kernel)) ggX12_sign_X12_here
theorem dX12_sign_0 : decode cX12_sign 0 = .ok (.aload_n 0, 1) := by decide +kernel
theorem dX12_sign_1 : decode cX12_sign 1 = .ok (.dup, 1) := by decide +kernel
theorem dX12_sign_2 : decode cX12_sign 2 = .ok (.getfield 151, 3) := by decide +kernel
theorem dX12_sign_5 : decode cX12_sign 5 = .ok (.iconst 1, 1) := by decide +kernel
theorem dX12_sign_6 : decode cX12_sign 6 = .ok (.iadd, 1) := by decide +kernel
theorem dX12_sign_7 : decode cX12_sign 7 = .ok (.putfield 151, 3) := by decide +kernel
theorem dX12_sign_10 : decode cX12_sign 10 = .ok (.aload_n 0, 1) := by decide +kernel
theorem dX12_sign_11 : decode cX12_sign 11 = .ok (.iload_n 1, 1) := by decide +kernel
theorem dX12_sign_12 : decode cX12_sign 12 = .ok (.bipush 59, 2) := by decide +kernel
theorem dX12_sign_14 : decode cX12_sign 14 = .ok (.if_icmp .eq 57, 3) := by decide +kernel
theorem dX12_sign_17 : decode cX12_sign 17 = .ok (.iload_n 1, 1) := by decide +kernel
theorem dX12_sign_18 : decode cX12_sign 18 = .ok (.bipush 40, 2) := by decide +kernel
theorem dX12_sign_20 : decode cX12_sign 20 = .ok (.if_icmp .eq 51, 3) := by decide +kernel
theorem dX12_sign_23 : decode cX12_sign 23 = .ok (.iload_n 1, 1) := by decide +kernel
theorem dX12_sign_24 : decode cX12_sign 24 = .ok (.bipush 41, 2) := by decide +kernel
theorem dX12_sign_26 : decode cX12_sign 26 = .ok (.if_icmp .eq 45, 3) := by decide +kernel
theorem dX12_sign_29 : decode cX12_sign 29 = .ok (.iload_n 1, 1) := by decide +kernel
theorem dX12_sign_30 : decode cX12_sign 30 = .ok (.bipush 43, 2) := by decide +kernel
theorem dX12_sign_32 : decode cX12_sign 32 = .ok (.if_icmp .eq 39, 3) := by decide +kernel
theorem dX12_sign_35 : decode cX12_sign 35 = .ok (.iload_n 1, 1) := by decide +kernel
theorem dX12_sign_36 : decode cX12_sign 36 = .ok (.bipush 45, 2) := by decide +kernel
theorem dX12_sign_38 : decode cX12_sign 38 = .ok (.if_icmp .eq 33, 3) := by decide +kernel
theorem dX12_sign_41 : decode cX12_sign 41 = .ok (.iload_n 1, 1) := by decide +kernel
theorem dX12_sign_42 : decode cX12_sign 42 = .ok (.bipush 42, 2) := by decide +kernel
theorem dX12_sign_44 : decode cX12_sign 44 = .ok (.if_icmp .eq 27, 3) := by decide +kernel
theorem dX12_sign_47 : decode cX12_sign 47 = .ok (.iload_n 1, 1) := by decide +kernel
theorem dX12_sign_48 : decode cX12_sign 48 = .ok (.bipush 47, 2) := by decide +kernel
theorem dX12_sign_50 : decode cX12_sign 50 = .ok (.if_icmp .eq 21, 3) := by decide +kernel
theorem dX12_sign_53 : decode cX12_sign 53 = .ok (.iload_n 1, 1) := by decide +kernel
theorem dX12_sign_54 : decode cX12_sign 54 = .ok (.bipush 60, 2) := by decide +kernel
theorem dX12_sign_56 : decode cX12_sign 56 = .ok (.if_icmp .eq 15, 3) := by decide +kernel
theorem dX12_sign_59 : decode cX12_sign 59 = .ok (.iload_n 1, 1) := by decide +kernel
theorem dX12_sign_60 : decode cX12_sign 60 = .ok (.bipush 61, 2) := by decide +kernel
theorem dX12_sign_62 : decode cX12_sign 62 = .ok (.if_icmp .eq 9, 3) := by decide +kernel
theorem dX12_sign_65 : decode cX12_sign 65 = .ok (.iload_n 1, 1) := by decide +kernel
theorem dX12_sign_66 : decode cX12_sign 66 = .ok (.bipush 62, 2) := by decide +kernel
theorem dX12_sign_68 : decode cX12_sign 68 = .ok (.if_icmp .ne 7, 3) := by decide +kernel
theorem dX12_sign_71 : decode cX12_sign 71 = .ok (.iconst 3, 1) := by decide +kernel
theorem dX12_sign_72 : decode cX12_sign 72 = .ok (.goto 4, 3) := by decide +kernel
theorem dX12_sign_75 : decode cX12_sign 75 = .ok (.iconst 5, 1) := by decide +kernel
theorem dX12_sign_76 : decode cX12_sign 76 = .ok (.putfield 164, 3) := by decide +kernel
theorem dX12_sign_79 : decode cX12_sign 79 = .ok (.aload_n 0, 1) := by decide +kernel
theorem dX12_sign_80 : decode cX12_sign 80 = .ok (.iload_n 1, 1) := by decide +kernel
theorem dX12_sign_81 : decode cX12_sign 81 = .ok (.putfield 174, 3) := by decide +kernel
theorem dX12_sign_84 : decode cX12_sign 84 = .ok (.iload_n 1, 1) := by decide +kernel
theorem dX12_sign_85 : decode cX12_sign 85 = .ok (.bipush 60, 2) := by decide +kernel
theorem dX12_sign_87 : decode cX12_sign 87 = .ok (.if_icmp .ne 19, 3) := by decide +kernel
theorem dX12_sign_90 : decode cX12_sign 90 = .ok (.aload_n 0, 1) := by decide +kernel
theorem dX12_sign_91 : decode cX12_sign 91 = .ok (.invokevirtual 157, 3) := by decide +kernel
theorem dX12_sign_94 : decode cX12_sign 94 = .ok (.bipush 61, 2) := by decide +kernel
theorem dX12_sign_96 : decode cX12_sign 96 = .ok (.if_icmp .ne 10, 3) := by decide +kernel
theorem dX12_sign_99 : decode cX12_sign 99 = .ok (.aload_n 0, 1) := by decide +kernel
theorem dX12_sign_100 : decode cX12_sign 100 = .ok (.sipush 256, 3) := by decide +kernel
theorem dX12_sign_103 : decode cX12_sign 103 = .ok (.putfield 174, 3) := by decide +kernel
theorem dX12_sign_106 : decode cX12_sign 106 = .ok (.iload_n 1, 1) := by decide +kernel
theorem dX12_sign_107 : decode cX12_sign 107 = .ok (.bipush 60, 2) := by decide +kernel
theorem dX12_sign_109 : decode cX12_sign 109 = .ok (.if_icmp .ne 19, 3) := by decide +kernel
theorem dX12_sign_112 : decode cX12_sign 112 = .ok (.aload_n 0, 1) := by decide +kernel
theorem dX12_sign_113 : decode cX12_sign 113 = .ok (.invokevirtual 157, 3) := by decide +kernel
theorem dX12_sign_116 : decode cX12_sign 116 = .ok (.bipush 62, 2) := by decide +kernel
theorem dX12_sign_118 : decode cX12_sign 118 = .ok (.if_icmp .ne 10, 3) := by decide +kernel
theorem dX12_sign_121 : decode cX12_sign 121 = .ok (.aload_n 0, 1) := by decide +kernel
theorem dX12_sign_122 : decode cX12_sign 122 = .ok (.sipush 257, 3) := by decide +kernel
theorem dX12_sign_125 : decode cX12_sign 125 = .ok (.putfield 174, 3) := by decide +kernel
theorem dX12_sign_128 : decode cX12_sign 128 = .ok (.iload_n 1, 1) := by decide +kernel
theorem dX12_sign_129 : decode cX12_sign 129 = .ok (.bipush 62, 2) := by decide +kernel
theorem dX12_sign_131 : decode cX12_sign 131 = .ok (.if_icmp .ne 19, 3) := by decide +kernel
theorem dX12_sign_134 : decode cX12_sign 134 = .ok (.aload_n 0, 1) := by decide +kernel
theorem dX12_sign_135 : decode cX12_sign 135 = .ok (.invokevirtual 157, 3) := by decide +kernel
theorem dX12_sign_138 : decode cX12_sign 138 = .ok (.bipush 61, 2) := by decide +kernel
theorem dX12_sign_140 : decode cX12_sign 140 = .ok (.if_icmp .ne 10, 3) := by decide +kernel
theorem dX12_sign_143 : decode cX12_sign 143 = .ok (.aload_n 0, 1) := by decide +kernel
theorem dX12_sign_144 : decode cX12_sign 144 = .ok (.sipush 258, 3) := by decide +kernel
theorem dX12_sign_147 : decode cX12_sign 147 = .ok (.putfield 174, 3) := by decide +kernel
theorem dX12_sign_150 : decode cX12_sign 150 = .ok (.aload_n 0, 1) := by decide +kernel
theorem dX12_sign_151 : decode cX12_sign 151 = .ok (.getfield 174, 3) := by decide +kernel
theorem dX12_sign_154 : decode cX12_sign 154 = .ok (.sipush 256, 3) := by decide +kernel
theorem dX12_sign_157 : decode cX12_sign 157 = .ok (.if_icmp .lt 13, 3) := by decide +kernel
theorem dX12_sign_160 : decode cX12_sign 160 = .ok (.aload_n 0, 1) := by decide +kernel
theorem dX12_sign_161 : decode cX12_sign 161 = .ok (.dup, 1) := by decide +kernel
theorem dX12_sign_162 : decode cX12_sign 162 = .ok (.getfield 151, 3) := by decide +kernel
theorem dX12_sign_165 : decode cX12_sign 165 = .ok (.iconst 1, 1) := by decide +kernel
theorem dX12_sign_166 : decode cX12_sign 166 = .ok (.iadd, 1) := by decide +kernel
theorem dX12_sign_167 : decode cX12_sign 167 = .ok (.putfield 151, 3) := by decide +kernel
theorem dX12_sign_170 : decode cX12_sign 170 = .ok (.return_, 1) := by decide +kernel
theorem dX12_word_0 : decode cX12_word 0 = .ok (.iconst 0, 1) := by decide +kernel
theorem dX12_word_1 : decode cX12_word 1 = .ok (.istore_n 1, 1) := by decide +kernel
theorem dX12_word_2 : decode cX12_word 2 = .ok (.iconst 0, 1) := by decide +kernel
theorem dX12_word_3 : decode cX12_word 3 = .ok (.istore_n 2, 1) := by decide +kernel
theorem dX12_word_4 : decode cX12_word 4 = .ok (.iload_n 2, 1) := by decide +kernel
theorem dX12_word_5 : decode cX12_word 5 = .ok (.ldc 188, 2) := by decide +kernel
theorem dX12_word_7 : decode cX12_word 7 = .ok (.invokevirtual 190, 3) := by decide +kernel
theorem dX12_word_10 : decode cX12_word 10 = .ok (.if_icmp .ge 113, 3) := by decide +kernel
theorem dX12_word_13 : decode cX12_word 13 = .ok (.iconst 0, 1) := by decide +kernel
theorem dX12_word_14 : decode cX12_word 14 = .ok (.istore_n 3, 1) := by decide +kernel
theorem dX12_word_15 : decode cX12_word 15 = .ok (.ldc 188, 2) := by decide +kernel
theorem dX12_word_17 : decode cX12_word 17 = .ok (.iload_n 2, 1) := by decide +kernel
theorem dX12_word_18 : decode cX12_word 18 = .ok (.iload_n 3, 1) := by decide +kernel
theorem dX12_word_19 : decode cX12_word 19 = .ok (.iadd, 1) := by decide +kernel
theorem dX12_word_20 : decode cX12_word 20 = .ok (.invokevirtual 195, 3) := by decide +kernel
theorem dX12_word_23 : decode cX12_word 23 = .ok (.bipush 32, 2) := by decide +kernel
theorem dX12_word_25 : decode cX12_word 25 = .ok (.if_icmp .eq 44, 3) := by decide +kernel
theorem dX12_word_28 : decode cX12_word 28 = .ok (.aload_n 0, 1) := by decide +kernel
theorem dX12_word_29 : decode cX12_word 29 = .ok (.getfield 161, 3) := by decide +kernel
theorem dX12_word_32 : decode cX12_word 32 = .ok (.iload_n 3, 1) := by decide +kernel
theorem dX12_word_33 : decode cX12_word 33 = .ok (.iadd, 1) := by decide +kernel
theorem dX12_word_34 : decode cX12_word 34 = .ok (.aload_n 0, 1) := by decide +kernel
theorem dX12_word_35 : decode cX12_word 35 = .ok (.getfield 151, 3) := by decide +kernel
theorem dX12_word_38 : decode cX12_word 38 = .ok (.if_icmp .ge 31, 3) := by decide +kernel
theorem dX12_word_41 : decode cX12_word 41 = .ok (.aload_n 0, 1) := by decide +kernel
theorem dX12_word_42 : decode cX12_word 42 = .ok (.getfield 7, 3) := by decide +kernel
theorem dX12_word_45 : decode cX12_word 45 = .ok (.aload_n 0, 1) := by decide +kernel
theorem dX12_word_46 : decode cX12_word 46 = .ok (.getfield 161, 3) := by decide +kernel
theorem dX12_word_49 : decode cX12_word 49 = .ok (.iload_n 3, 1) := by decide +kernel
theorem dX12_word_50 : decode cX12_word 50 = .ok (.iadd, 1) := by decide +kernel
theorem dX12_word_51 : decode cX12_word 51 = .ok (.iaload, 1) := by decide +kernel
theorem dX12_word_52 : decode cX12_word 52 = .ok (.ldc 188, 2) := by decide +kernel
theorem dX12_word_54 : decode cX12_word 54 = .ok (.iload_n 2, 1) := by decide +kernel
theorem dX12_word_55 : decode cX12_word 55 = .ok (.iload_n 3, 1) := by decide +kernel
theorem dX12_word_56 : decode cX12_word 56 = .ok (.iadd, 1) := by decide +kernel
theorem dX12_word_57 : decode cX12_word 57 = .ok (.invokevirtual 195, 3) := by decide +kernel
theorem dX12_word_60 : decode cX12_word 60 = .ok (.if_icmp .ne 9, 3) := by decide +kernel
theorem dX12_word_63 : decode cX12_word 63 = .ok (.iinc 3 1, 3) := by decide +kernel
theorem dX12_word_66 : decode cX12_word 66 = .ok (.goto (-51), 3) := by decide +kernel
theorem dX12_word_69 : decode cX12_word 69 = .ok (.ldc 188, 2) := by decide +kernel
theorem dX12_word_71 : decode cX12_word 71 = .ok (.iload_n 2, 1) := by decide +kernel
theorem dX12_word_72 : decode cX12_word 72 = .ok (.iload_n 3, 1) := by decide +kernel
theorem dX12_word_73 : decode cX12_word 73 = .ok (.iadd, 1) := by decide +kernel
theorem dX12_word_74 : decode cX12_word 74 = .ok (.invokevirtual 195, 3) := by decide +kernel
theorem dX12_word_77 : decode cX12_word 77 = .ok (.bipush 32, 2) := by decide +kernel
theorem dX12_word_79 : decode cX12_word 79 = .ok (.if_icmp .ne 18, 3) := by decide +kernel
theorem dX12_word_82 : decode cX12_word 82 = .ok (.aload_n 0, 1) := by decide +kernel
theorem dX12_word_83 : decode cX12_word 83 = .ok (.getfield 161, 3) := by decide +kernel
theorem dX12_word_86 : decode cX12_word 86 = .ok (.iload_n 3, 1) := by decide +kernel
theorem dX12_word_87 : decode cX12_word 87 = .ok (.iadd, 1) := by decide +kernel
theorem dX12_word_88 : decode cX12_word 88 = .ok (.aload_n 0, 1) := by decide +kernel
theorem dX12_word_89 : decode cX12_word 89 = .ok (.getfield 151, 3) := by decide +kernel
theorem dX12_word_92 : decode cX12_word 92 = .ok (.if_icmp .ne 5, 3) := by decide +kernel
theorem dX12_word_95 : decode cX12_word 95 = .ok (.iload_n 1, 1) := by decide +kernel
theorem dX12_word_96 : decode cX12_word 96 = .ok (.ireturn, 1) := by decide +kernel
theorem dX12_word_97 : decode cX12_word 97 = .ok (.ldc 188, 2) := by decide +kernel
theorem dX12_word_99 : decode cX12_word 99 = .ok (.iload_n 2, 1) := by decide +kernel
theorem dX12_word_100 : decode cX12_word 100 = .ok (.invokevirtual 195, 3) := by decide +kernel
theorem dX12_word_103 : decode cX12_word 103 = .ok (.bipush 32, 2) := by decide +kernel
theorem dX12_word_105 : decode cX12_word 105 = .ok (.if_icmp .eq 9, 3) := by decide +kernel
theorem dX12_word_108 : decode cX12_word 108 = .ok (.iinc 2 1, 3) := by decide +kernel
theorem dX12_word_111 : decode cX12_word 111 = .ok (.goto (-14), 3) := by decide +kernel
theorem dX12_word_114 : decode cX12_word 114 = .ok (.iinc 2 1, 3) := by decide +kernel
theorem dX12_word_117 : decode cX12_word 117 = .ok (.iinc 1 1, 3) := by decide +kernel
theorem dX12_word_120 : decode cX12_word 120 = .ok (.goto (-116), 3) := by decide +kernel
theorem dX12_word_123 : decode cX12_word 123 = .ok (.iconst (-1), 1) := by decide +kernel
theorem dX12_word_124 : decode cX12_word 124 = .ok (.ireturn, 1) := by decide +kernel
theorem dX12_name_0 : decode cX12_name 0 = .ok (.aload_n 0, 1) := by decide +kernel
theorem dX12_name_1 : decode cX12_name 1 = .ok (.iconst 0, 1) := by decide +kernel
theorem dX12_name_2 : decode cX12_name 2 = .ok (.putfield 174, 3) := by decide +kernel
theorem dX12_name_5 : decode cX12_name 5 = .ok (.iconst 0, 1) := by decide +kernel
theorem dX12_name_6 : decode cX12_name 6 = .ok (.istore_n 1, 1) := by decide +kernel
theorem dX12_name_7 : decode cX12_name 7 = .ok (.iload_n 1, 1) := by decide +kernel
theorem dX12_name_8 : decode cX12_name 8 = .ok (.bipush 6, 2) := by decide +kernel
theorem dX12_name_10 : decode cX12_name 10 = .ok (.if_icmp .ge 53, 3) := by decide +kernel
theorem dX12_name_13 : decode cX12_name 13 = .ok (.aload_n 0, 1) := by decide +kernel
theorem dX12_name_14 : decode cX12_name 14 = .ok (.aload_n 0, 1) := by decide +kernel
theorem dX12_name_15 : decode cX12_name 15 = .ok (.getfield 174, 3) := by decide +kernel
theorem dX12_name_18 : decode cX12_name 18 = .ok (.iconst 5, 1) := by decide +kernel
theorem dX12_name_19 : decode cX12_name 19 = .ok (.ishl, 1) := by decide +kernel
theorem dX12_name_20 : decode cX12_name 20 = .ok (.aload_n 0, 1) := by decide +kernel
theorem dX12_name_21 : decode cX12_name 21 = .ok (.getfield 161, 3) := by decide +kernel
theorem dX12_name_24 : decode cX12_name 24 = .ok (.iload_n 1, 1) := by decide +kernel
theorem dX12_name_25 : decode cX12_name 25 = .ok (.iadd, 1) := by decide +kernel
theorem dX12_name_26 : decode cX12_name 26 = .ok (.aload_n 0, 1) := by decide +kernel
theorem dX12_name_27 : decode cX12_name 27 = .ok (.getfield 151, 3) := by decide +kernel
theorem dX12_name_30 : decode cX12_name 30 = .ok (.if_icmp .ge 22, 3) := by decide +kernel
theorem dX12_name_33 : decode cX12_name 33 = .ok (.aload_n 0, 1) := by decide +kernel
theorem dX12_name_34 : decode cX12_name 34 = .ok (.getfield 7, 3) := by decide +kernel
theorem dX12_name_37 : decode cX12_name 37 = .ok (.aload_n 0, 1) := by decide +kernel
theorem dX12_name_38 : decode cX12_name 38 = .ok (.getfield 161, 3) := by decide +kernel
theorem dX12_name_41 : decode cX12_name 41 = .ok (.iload_n 1, 1) := by decide +kernel
theorem dX12_name_42 : decode cX12_name 42 = .ok (.iadd, 1) := by decide +kernel
theorem dX12_name_43 : decode cX12_name 43 = .ok (.iaload, 1) := by decide +kernel
theorem dX12_name_44 : decode cX12_name 44 = .ok (.bipush 97, 2) := by decide +kernel
theorem dX12_name_46 : decode cX12_name 46 = .ok (.isub, 1) := by decide +kernel
theorem dX12_name_47 : decode cX12_name 47 = .ok (.iconst 1, 1) := by decide +kernel
theorem dX12_name_48 : decode cX12_name 48 = .ok (.iadd, 1) := by decide +kernel
theorem dX12_name_49 : decode cX12_name 49 = .ok (.goto 4, 3) := by decide +kernel
theorem dX12_name_52 : decode cX12_name 52 = .ok (.iconst 0, 1) := by decide +kernel
theorem dX12_name_53 : decode cX12_name 53 = .ok (.ior, 1) := by decide +kernel
theorem dX12_name_54 : decode cX12_name 54 = .ok (.putfield 174, 3) := by decide +kernel
theorem dX12_name_57 : decode cX12_name 57 = .ok (.iinc 1 1, 3) := by decide +kernel
theorem dX12_name_60 : decode cX12_name 60 = .ok (.goto (-53), 3) := by decide +kernel
theorem dX12_name_63 : decode cX12_name 63 = .ok (.return_, 1) := by decide +kernel
theorem dX12_wrong_0 : decode cX12_wrong 0 = .ok (.aload_n 0, 1) := by decide +kernel
theorem dX12_wrong_1 : decode cX12_wrong 1 = .ok (.getfield 199, 3) := by decide +kernel
theorem dX12_wrong_4 : decode cX12_wrong 4 = .ok (.ifCond .eq 4, 3) := by decide +kernel
theorem dX12_wrong_7 : decode cX12_wrong 7 = .ok (.return_, 1) := by decide +kernel
theorem dX12_wrong_8 : decode cX12_wrong 8 = .ok (.aload_n 0, 1) := by decide +kernel
theorem dX12_wrong_9 : decode cX12_wrong 9 = .ok (.iload_n 1, 1) := by decide +kernel
theorem dX12_wrong_10 : decode cX12_wrong 10 = .ok (.putfield 199, 3) := by decide +kernel
theorem dX12_wrong_13 : decode cX12_wrong 13 = .ok (.aload_n 0, 1) := by decide +kernel
theorem dX12_wrong_14 : decode cX12_wrong 14 = .ok (.aload_n 0, 1) := by decide +kernel
theorem dX12_wrong_15 : decode cX12_wrong 15 = .ok (.getfield 161, 3) := by decide +kernel
theorem dX12_wrong_18 : decode cX12_wrong 18 = .ok (.putfield 202, 3) := by decide +kernel
theorem dX12_wrong_21 : decode cX12_wrong 21 = .ok (.return_, 1) := by decide +kernel
theorem dX12_isWord_0 : decode cX12_isWord 0 = .ok (.aload_n 0, 1) := by decide +kernel
theorem dX12_isWord_1 : decode cX12_isWord 1 = .ok (.getfield 199, 3) := by decide +kernel
theorem dX12_isWord_4 : decode cX12_isWord 4 = .ok (.ifCond .ne 22, 3) := by decide +kernel
theorem dX12_isWord_7 : decode cX12_isWord 7 = .ok (.aload_n 0, 1) := by decide +kernel
theorem dX12_isWord_8 : decode cX12_isWord 8 = .ok (.getfield 164, 3) := by decide +kernel
theorem dX12_isWord_11 : decode cX12_isWord 11 = .ok (.ifCond .ne 15, 3) := by decide +kernel
theorem dX12_isWord_14 : decode cX12_isWord 14 = .ok (.aload_n 0, 1) := by decide +kernel
theorem dX12_isWord_15 : decode cX12_isWord 15 = .ok (.getfield 174, 3) := by decide +kernel
theorem dX12_isWord_18 : decode cX12_isWord 18 = .ok (.iload_n 1, 1) := by decide +kernel
theorem dX12_isWord_19 : decode cX12_isWord 19 = .ok (.if_icmp .ne 7, 3) := by decide +kernel
theorem dX12_isWord_22 : decode cX12_isWord 22 = .ok (.iconst 1, 1) := by decide +kernel
theorem dX12_isWord_23 : decode cX12_isWord 23 = .ok (.goto 4, 3) := by decide +kernel
theorem dX12_isWord_26 : decode cX12_isWord 26 = .ok (.iconst 0, 1) := by decide +kernel
theorem dX12_isWord_27 : decode cX12_isWord 27 = .ok (.ireturn, 1) := by decide +kernel
theorem dX12_isSign_0 : decode cX12_isSign 0 = .ok (.aload_n 0, 1) := by decide +kernel
theorem dX12_isSign_1 : decode cX12_isSign 1 = .ok (.getfield 199, 3) := by decide +kernel
theorem dX12_isSign_4 : decode cX12_isSign 4 = .ok (.ifCond .ne 23, 3) := by decide +kernel
theorem dX12_isSign_7 : decode cX12_isSign 7 = .ok (.aload_n 0, 1) := by decide +kernel
theorem dX12_isSign_8 : decode cX12_isSign 8 = .ok (.getfield 164, 3) := by decide +kernel
theorem dX12_isSign_11 : decode cX12_isSign 11 = .ok (.iconst 3, 1) := by decide +kernel
theorem dX12_isSign_12 : decode cX12_isSign 12 = .ok (.if_icmp .ne 15, 3) := by decide +kernel
theorem dX12_isSign_15 : decode cX12_isSign 15 = .ok (.aload_n 0, 1) := by decide +kernel
theorem dX12_isSign_16 : decode cX12_isSign 16 = .ok (.getfield 174, 3) := by decide +kernel
theorem dX12_isSign_19 : decode cX12_isSign 19 = .ok (.iload_n 1, 1) := by decide +kernel
theorem dX12_isSign_20 : decode cX12_isSign 20 = .ok (.if_icmp .ne 7, 3) := by decide +kernel
theorem dX12_isSign_23 : decode cX12_isSign 23 = .ok (.iconst 1, 1) := by decide +kernel
theorem dX12_isSign_24 : decode cX12_isSign 24 = .ok (.goto 4, 3) := by decide +kernel
theorem dX12_isSign_27 : decode cX12_isSign 27 = .ok (.iconst 0, 1) := by decide +kernel
theorem dX12_isSign_28 : decode cX12_isSign 28 = .ok (.ireturn, 1) := by decide +kernel
set_option maxRecDepth 20000 in
theorem ggX12_goOn_X12_token : GoodIn wsX12_goOn wsX12_token := goodIn_r _ [6, 7, 8, 9, 10, 11, 12, 13, 14, 5, 15, 16, 17, 18, 19, 20, 21, 22, 23, 24, 25, 26, 27, 28, 29, 30, 31, 32, 33, 34, 35, 36, 37, 38, 39, 40, 41, 42, 43, 44, 45, 46, 47, 48, 49, 50, 51, 52, 53, 54, 55, 56, 57, 58, 59, 60, 61, 62, 63, 64, 65, 66, 67, 68, 69, 70, 71, 72, 73, 74, 75, 76, 77, 78, 79, 80, 81, 82, 83, 84, 85, 86, 87, 88, 89, 90, 91, 92, 93, 94, 95, 96, 97, 98, 99, 100, 101, 102, 103, 104, 105, 106, 107, 108, 109, 110, 111, 112, 113, 114, 115, 116, 117, 118, 119, 120, 121, 122, 123, 124, 125, 126, 127, 128, 129, 130, 131, 132, 133, 134, 135, 136, 137, 138, 139, 140, 141, 142, 143, 144, 145, 146, 147, 148, 149, 150] rfl (by decide +kernel)
set_option maxRecDepth 20000 in
theorem gX12_goOn_X12_token : GoodIn wsX12_goOn (wsV RX12 205 RX12 yX12_token wsX12_token) := goodIn_app (goodIn_r _ [2, 3, 4, 5] rfl (by decide +kernel)) ggX12_goOn_X12_token
theorem dX12_goOn_0 : decode cX12_goOn 0 = .ok (.aload_n 0, 1) := by decide +kernel
theorem dX12_goOn_1 : decode cX12_goOn 1 = .ok (.getfield 199, 3) := by decide +kernel
theorem dX12_goOn_4 : decode cX12_goOn 4 = .ok (.ifCond .ne 7, 3) := by decide +kernel
theorem dX12_goOn_7 : decode cX12_goOn 7 = .ok (.aload_n 0, 1) := by decide +kernel
theorem dX12_goOn_8 : decode cX12_goOn 8 = .ok (.invokevirtual 205, 3) := by decide +kernel
theorem dX12_goOn_11 : decode cX12_goOn 11 = .ok (.return_, 1) := by decide +kernel
set_option maxRecDepth 20000 in
theorem ggX12_numeral_X12_wrong : GoodIn wsX12_numeral wsX12_wrong := goodIn_r _ [8, 1, 9, 10, 90, 91, 92, 93, 94, 95, 96, 97, 98, 99, 100, 101, 102, 103, 104, 105, 106, 107, 108, 109, 110, 111, 112, 113, 114, 115, 116, 117, 118, 119, 120, 121, 122, 123, 124, 125, 126, 127, 128, 129, 130, 131, 132, 133, 134, 135, 136, 137, 138, 139, 140, 141, 142, 143, 144, 145, 146, 147, 148, 149, 150, 151, 152, 153, 154, 155] rfl (by decide +kernel)
set_option maxRecDepth 20000 in
theorem gX12_numeral_X12_wrong : GoodIn wsX12_numeral (wsV RX12 208 RX12 yX12_wrong wsX12_wrong) := goodIn_app (goodIn_r _ [4, 5, 6, 7] rfl (by decide +kernel)) ggX12_numeral_X12_wrong
set_option maxRecDepth 20000 in
theorem ggX12_numeral_X12_token : GoodIn wsX12_numeral wsX12_token := goodIn_r _ [14, 15, 9, 2, 3, 16, 17, 18, 19, 7, 20, 21, 22, 23, 24, 25, 26, 27, 28, 29, 30, 31, 32, 33, 34, 35, 36, 37, 38, 39, 40, 41, 42, 43, 44, 45, 46, 47, 48, 49, 50, 51, 52, 53, 54, 55, 56, 57, 58, 59, 60, 61, 62, 63, 64, 65, 66, 67, 68, 69, 70, 71, 72, 73, 74, 75, 76, 77, 78, 79, 80, 81, 82, 83, 84, 85, 86, 87, 88, 89, 90, 91, 92, 93, 94, 95, 96, 97, 98, 99, 100, 101, 102, 103, 104, 105, 106, 107, 108, 109, 110, 111, 112, 113, 114, 115, 116, 117, 118, 119, 120, 121, 122, 123, 124, 125, 126, 127, 128, 129, 130, 131, 132, 133, 134, 135, 136, 137, 138, 139, 140, 141, 142, 143, 144, 145, 146, 147, 148, 149, 150, 151, 152, 153, 154, 155] rfl (by decide +kernel)
set_option maxRecDepth 20000 in
theorem gX12_numeral_X12_token : GoodIn wsX12_numeral (wsV RX12 205 RX12 yX12_token wsX12_token) := goodIn_app (goodIn_r _ [11, 12, 13, 7] rfl (by decide +kernel)) ggX12_numeral_X12_token
theorem dX12_numeral_0 : decode cX12_numeral 0 = .ok (.aload_n 0, 1) := by decide +kernel
theorem dX12_numeral_1 : decode cX12_numeral 1 = .ok (.getfield 199, 3) := by decide +kernel
theorem dX12_numeral_4 : decode cX12_numeral 4 = .ok (.ifCond .eq 5, 3) := by decide +kernel
theorem dX12_numeral_7 : decode cX12_numeral 7 = .ok (.iload_n 1, 1) := by decide +kernel
theorem dX12_numeral_8 : decode cX12_numeral 8 = .ok (.ireturn, 1) := by decide +kernel
theorem dX12_numeral_9 : decode cX12_numeral 9 = .ok (.aload_n 0, 1) := by decide +kernel
theorem dX12_numeral_10 : decode cX12_numeral 10 = .ok (.getfield 164, 3) := by decide +kernel
theorem dX12_numeral_13 : decode cX12_numeral 13 = .ok (.iconst 2, 1) := by decide +kernel
theorem dX12_numeral_14 : decode cX12_numeral 14 = .ok (.if_icmp .eq 11, 3) := by decide +kernel
theorem dX12_numeral_17 : decode cX12_numeral 17 = .ok (.aload_n 0, 1) := by decide +kernel
theorem dX12_numeral_18 : decode cX12_numeral 18 = .ok (.iconst 1, 1) := by decide +kernel
theorem dX12_numeral_19 : decode cX12_numeral 19 = .ok (.invokevirtual 208, 3) := by decide +kernel
theorem dX12_numeral_22 : decode cX12_numeral 22 = .ok (.goto 24, 3) := by decide +kernel
theorem dX12_numeral_25 : decode cX12_numeral 25 = .ok (.aload_n 0, 1) := by decide +kernel
theorem dX12_numeral_26 : decode cX12_numeral 26 = .ok (.getfield 174, 3) := by decide +kernel
theorem dX12_numeral_29 : decode cX12_numeral 29 = .ok (.iload_n 1, 1) := by decide +kernel
theorem dX12_numeral_30 : decode cX12_numeral 30 = .ok (.if_icmp .lt 11, 3) := by decide +kernel
theorem dX12_numeral_33 : decode cX12_numeral 33 = .ok (.aload_n 0, 1) := by decide +kernel
theorem dX12_numeral_34 : decode cX12_numeral 34 = .ok (.getfield 174, 3) := by decide +kernel
theorem dX12_numeral_37 : decode cX12_numeral 37 = .ok (.iload_n 2, 1) := by decide +kernel
theorem dX12_numeral_38 : decode cX12_numeral 38 = .ok (.if_icmp .le 8, 3) := by decide +kernel
theorem dX12_numeral_41 : decode cX12_numeral 41 = .ok (.aload_n 0, 1) := by decide +kernel
theorem dX12_numeral_42 : decode cX12_numeral 42 = .ok (.iconst 2, 1) := by decide +kernel
theorem dX12_numeral_43 : decode cX12_numeral 43 = .ok (.invokevirtual 208, 3) := by decide +kernel
theorem dX12_numeral_46 : decode cX12_numeral 46 = .ok (.aload_n 0, 1) := by decide +kernel
theorem dX12_numeral_47 : decode cX12_numeral 47 = .ok (.getfield 199, 3) := by decide +kernel
theorem dX12_numeral_50 : decode cX12_numeral 50 = .ok (.ifCond .eq 5, 3) := by decide +kernel
theorem dX12_numeral_53 : decode cX12_numeral 53 = .ok (.iload_n 1, 1) := by decide +kernel
theorem dX12_numeral_54 : decode cX12_numeral 54 = .ok (.ireturn, 1) := by decide +kernel
theorem dX12_numeral_55 : decode cX12_numeral 55 = .ok (.aload_n 0, 1) := by decide +kernel
theorem dX12_numeral_56 : decode cX12_numeral 56 = .ok (.getfield 174, 3) := by decide +kernel
theorem dX12_numeral_59 : decode cX12_numeral 59 = .ok (.istore_n 3, 1) := by decide +kernel
theorem dX12_numeral_60 : decode cX12_numeral 60 = .ok (.aload_n 0, 1) := by decide +kernel
theorem dX12_numeral_61 : decode cX12_numeral 61 = .ok (.invokevirtual 205, 3) := by decide +kernel
theorem dX12_numeral_64 : decode cX12_numeral 64 = .ok (.iload_n 3, 1) := by decide +kernel
theorem dX12_numeral_65 : decode cX12_numeral 65 = .ok (.ireturn, 1) := by decide +kernel
theorem dX12_found_0 : decode cX12_found 0 = .ok (.iconst 0, 1) := by decide +kernel
theorem dX12_found_1 : decode cX12_found 1 = .ok (.istore 4, 2) := by decide +kernel
theorem dX12_found_3 : decode cX12_found 3 = .ok (.iload 4, 2) := by decide +kernel
theorem dX12_found_5 : decode cX12_found 5 = .ok (.iload_n 2, 1) := by decide +kernel
theorem dX12_found_6 : decode cX12_found 6 = .ok (.if_icmp .ge 22, 3) := by decide +kernel
theorem dX12_found_9 : decode cX12_found 9 = .ok (.aload_n 0, 1) := by decide +kernel
theorem dX12_found_10 : decode cX12_found 10 = .ok (.iload_n 1, 1) := by decide +kernel
theorem dX12_found_11 : decode cX12_found 11 = .ok (.iload 4, 2) := by decide +kernel
theorem dX12_found_13 : decode cX12_found 13 = .ok (.iadd, 1) := by decide +kernel
theorem dX12_found_14 : decode cX12_found 14 = .ok (.iaload, 1) := by decide +kernel
theorem dX12_found_15 : decode cX12_found 15 = .ok (.iload_n 3, 1) := by decide +kernel
theorem dX12_found_16 : decode cX12_found 16 = .ok (.if_icmp .ne 6, 3) := by decide +kernel
theorem dX12_found_19 : decode cX12_found 19 = .ok (.iload 4, 2) := by decide +kernel
theorem dX12_found_21 : decode cX12_found 21 = .ok (.ireturn, 1) := by decide +kernel
theorem dX12_found_22 : decode cX12_found 22 = .ok (.iinc 4 1, 3) := by decide +kernel
theorem dX12_found_25 : decode cX12_found 25 = .ok (.goto (-22), 3) := by decide +kernel
theorem dX12_found_28 : decode cX12_found 28 = .ok (.iconst (-1), 1) := by decide +kernel
theorem dX12_found_29 : decode cX12_found 29 = .ok (.ireturn, 1) := by decide +kernel
set_option maxRecDepth 20000 in
theorem ggX12_fresh_X12_wrong : GoodIn wsX12_fresh wsX12_wrong := goodIn_r _ [8, 1, 9, 10, 93, 94, 95, 96, 97, 98, 99, 100, 101, 102, 103, 104, 105, 106, 107, 108, 109, 110, 111, 112, 113, 114, 115, 116, 117, 118, 119, 120, 121, 122, 123, 124, 125, 126, 127, 128, 129, 130, 131, 132, 133, 134, 135, 136, 137, 138, 139, 140, 141, 142, 143, 144, 145, 146, 147, 148, 149, 150, 151, 152, 153, 154, 155, 156, 157, 158] rfl (by decide +kernel)
set_option maxRecDepth 20000 in
theorem gX12_fresh_X12_wrong : GoodIn wsX12_fresh (wsV RX12 208 RX12 yX12_wrong wsX12_wrong) := goodIn_app (goodIn_r _ [4, 5, 6, 7] rfl (by decide +kernel)) ggX12_fresh_X12_wrong
set_option maxRecDepth 20000 in
theorem ggX12_fresh_X12_found : GoodIn wsX12_fresh wsX12_found := goodIn_r _ [13] rfl (by decide +kernel)
set_option maxRecDepth 20000 in
theorem gX12_fresh_X12_found : GoodIn wsX12_fresh (va_wsS RX12 211 yX12_found wsX12_found) := goodIn_app (goodIn_of _ (by decide +kernel)) ggX12_fresh_X12_found
set_option maxRecDepth 20000 in
theorem ggX12_fresh_X12_token : GoodIn wsX12_fresh wsX12_token := goodIn_r _ [17, 18, 9, 2, 3, 19, 20, 21, 22, 7, 23, 24, 25, 26, 27, 28, 29, 30, 31, 32, 33, 34, 35, 36, 37, 38, 39, 40, 41, 42, 43, 44, 45, 46, 47, 48, 49, 50, 51, 52, 53, 54, 55, 56, 57, 58, 59, 60, 61, 62, 63, 64, 65, 66, 67, 68, 69, 70, 71, 72, 73, 74, 75, 76, 77, 78, 79, 80, 81, 82, 83, 84, 85, 86, 87, 88, 89, 90, 91, 92, 93, 94, 95, 96, 97, 98, 99, 100, 101, 102, 103, 104, 105, 106, 107, 108, 109, 110, 111, 112, 113, 114, 115, 116, 117, 118, 119, 120, 121, 122, 123, 124, 125, 126, 127, 128, 129, 130, 131, 132, 133, 134, 135, 136, 137, 138, 139, 140, 141, 142, 143, 144, 145, 146, 147, 148, 149, 150, 151, 152, 153, 154, 155, 156, 157, 158] rfl (by decide +kernel)
set_option maxRecDepth 20000 in
theorem gX12_fresh_X12_token : GoodIn wsX12_fresh (wsV RX12 205 RX12 yX12_token wsX12_token) := goodIn_app (goodIn_r _ [14, 15, 16, 7] rfl (by decide +kernel)) ggX12_fresh_X12_token
theorem dX12_fresh_0 : decode cX12_fresh 0 = .ok (.aload_n 0, 1) := by decide +kernel
theorem dX12_fresh_1 : decode cX12_fresh 1 = .ok (.getfield 199, 3) := by decide +kernel
theorem dX12_fresh_4 : decode cX12_fresh 4 = .ok (.ifCond .eq 5, 3) := by decide +kernel
theorem dX12_fresh_7 : decode cX12_fresh 7 = .ok (.iconst 0, 1) := by decide +kernel
theorem dX12_fresh_8 : decode cX12_fresh 8 = .ok (.ireturn, 1) := by decide +kernel
theorem dX12_fresh_9 : decode cX12_fresh 9 = .ok (.aload_n 0, 1) := by decide +kernel
theorem dX12_fresh_10 : decode cX12_fresh 10 = .ok (.getfield 164, 3) := by decide +kernel
theorem dX12_fresh_13 : decode cX12_fresh 13 = .ok (.iconst 1, 1) := by decide +kernel
theorem dX12_fresh_14 : decode cX12_fresh 14 = .ok (.if_icmp .eq 11, 3) := by decide +kernel
theorem dX12_fresh_17 : decode cX12_fresh 17 = .ok (.aload_n 0, 1) := by decide +kernel
theorem dX12_fresh_18 : decode cX12_fresh 18 = .ok (.iconst 1, 1) := by decide +kernel
theorem dX12_fresh_19 : decode cX12_fresh 19 = .ok (.invokevirtual 208, 3) := by decide +kernel
theorem dX12_fresh_22 : decode cX12_fresh 22 = .ok (.goto 22, 3) := by decide +kernel
theorem dX12_fresh_25 : decode cX12_fresh 25 = .ok (.aload_n 1, 1) := by decide +kernel
theorem dX12_fresh_26 : decode cX12_fresh 26 = .ok (.iload_n 2, 1) := by decide +kernel
theorem dX12_fresh_27 : decode cX12_fresh 27 = .ok (.iload_n 3, 1) := by decide +kernel
theorem dX12_fresh_28 : decode cX12_fresh 28 = .ok (.aload_n 0, 1) := by decide +kernel
theorem dX12_fresh_29 : decode cX12_fresh 29 = .ok (.getfield 174, 3) := by decide +kernel
theorem dX12_fresh_32 : decode cX12_fresh 32 = .ok (.invokestatic 211, 3) := by decide +kernel
theorem dX12_fresh_35 : decode cX12_fresh 35 = .ok (.iconst (-1), 1) := by decide +kernel
theorem dX12_fresh_36 : decode cX12_fresh 36 = .ok (.if_icmp .eq 8, 3) := by decide +kernel
theorem dX12_fresh_39 : decode cX12_fresh 39 = .ok (.aload_n 0, 1) := by decide +kernel
theorem dX12_fresh_40 : decode cX12_fresh 40 = .ok (.iconst 3, 1) := by decide +kernel
theorem dX12_fresh_41 : decode cX12_fresh 41 = .ok (.invokevirtual 208, 3) := by decide +kernel
theorem dX12_fresh_44 : decode cX12_fresh 44 = .ok (.aload_n 0, 1) := by decide +kernel
theorem dX12_fresh_45 : decode cX12_fresh 45 = .ok (.getfield 199, 3) := by decide +kernel
theorem dX12_fresh_48 : decode cX12_fresh 48 = .ok (.ifCond .eq 5, 3) := by decide +kernel
theorem dX12_fresh_51 : decode cX12_fresh 51 = .ok (.iconst 0, 1) := by decide +kernel
theorem dX12_fresh_52 : decode cX12_fresh 52 = .ok (.ireturn, 1) := by decide +kernel
theorem dX12_fresh_53 : decode cX12_fresh 53 = .ok (.aload_n 0, 1) := by decide +kernel
theorem dX12_fresh_54 : decode cX12_fresh 54 = .ok (.getfield 174, 3) := by decide +kernel
theorem dX12_fresh_57 : decode cX12_fresh 57 = .ok (.istore 4, 2) := by decide +kernel
theorem dX12_fresh_59 : decode cX12_fresh 59 = .ok (.aload_n 0, 1) := by decide +kernel
theorem dX12_fresh_60 : decode cX12_fresh 60 = .ok (.invokevirtual 205, 3) := by decide +kernel
theorem dX12_fresh_63 : decode cX12_fresh 63 = .ok (.iload 4, 2) := by decide +kernel
theorem dX12_fresh_65 : decode cX12_fresh 65 = .ok (.ireturn, 1) := by decide +kernel
theorem dX12_fresher_0 : decode cX12_fresher 0 = .ok (.aload_n 0, 1) := by decide +kernel
theorem dX12_fresher_1 : decode cX12_fresher 1 = .ok (.getfield 13, 3) := by decide +kernel
theorem dX12_fresher_4 : decode cX12_fresher 4 = .ok (.bipush 9, 2) := by decide +kernel
theorem dX12_fresher_6 : decode cX12_fresher 6 = .ok (.iload_n 1, 1) := by decide +kernel
theorem dX12_fresher_7 : decode cX12_fresher 7 = .ok (.iadd, 1) := by decide +kernel
theorem dX12_fresher_8 : decode cX12_fresher 8 = .ok (.iaload, 1) := by decide +kernel
theorem dX12_fresher_9 : decode cX12_fresher 9 = .ok (.ireturn, 1) := by decide +kernel
theorem dX12_reads_0 : decode cX12_reads 0 = .ok (.aload_n 0, 1) := by decide +kernel
theorem dX12_reads_1 : decode cX12_reads 1 = .ok (.getfield 13, 3) := by decide +kernel
theorem dX12_reads_4 : decode cX12_reads 4 = .ok (.bipush 9, 2) := by decide +kernel
theorem dX12_reads_6 : decode cX12_reads 6 = .ok (.iload_n 1, 1) := by decide +kernel
theorem dX12_reads_7 : decode cX12_reads 7 = .ok (.iadd, 1) := by decide +kernel
theorem dX12_reads_8 : decode cX12_reads 8 = .ok (.iload_n 2, 1) := by decide +kernel
theorem dX12_reads_9 : decode cX12_reads 9 = .ok (.iastore, 1) := by decide +kernel
theorem dX12_reads_10 : decode cX12_reads 10 = .ok (.return_, 1) := by decide +kernel
set_option maxRecDepth 20000 in
theorem ggX12_bayAtHand_X12_wrong : GoodIn wsX12_bayAtHand wsX12_wrong := goodIn_r _ [9, 1, 10, 11, 20, 21, 22, 23, 24, 25, 26, 27, 28, 29, 30, 31, 32, 33, 34, 35, 36, 37, 38, 39, 40, 41, 42, 43, 44, 45, 46, 47, 48, 49, 50, 51, 52, 53, 54, 55, 56, 57, 58, 59, 60, 61, 62, 63, 64, 65, 66, 67, 68, 69, 70, 71, 72, 73, 74, 75, 76, 77, 78, 79, 80, 81, 82, 83, 84, 85] rfl (by decide +kernel)
set_option maxRecDepth 20000 in
theorem gX12_bayAtHand_X12_wrong : GoodIn wsX12_bayAtHand (wsV RX12 208 RX12 yX12_wrong wsX12_wrong) := goodIn_app (goodIn_r _ [5, 6, 7, 8] rfl (by decide +kernel)) ggX12_bayAtHand_X12_wrong
set_option maxRecDepth 20000 in
theorem ggX12_bayAtHand_X12_fresher : GoodIn wsX12_bayAtHand wsX12_fresher := goodIn_r _ [15, 16, 20, 21, 22, 23, 24, 25, 26, 27, 28, 29, 30, 31, 32, 33, 34, 35, 36, 37, 38, 39, 40, 41, 42, 43, 44, 45, 46, 47, 48, 49, 50, 51, 52, 53, 54, 55, 56, 57, 58, 59, 60, 61, 62, 63, 64, 65, 66, 67, 68, 69, 70, 71, 72, 73, 74, 75, 76, 77, 78, 79, 80, 81, 82, 83, 84, 85] rfl (by decide +kernel)
set_option maxRecDepth 20000 in
theorem gX12_bayAtHand_X12_fresher : GoodIn wsX12_bayAtHand (wsV RX12 215 RX12 yX12_fresher wsX12_fresher) := goodIn_app (goodIn_r _ [12, 13, 14, 8] rfl (by decide +kernel)) ggX12_bayAtHand_X12_fresher
set_option maxRecDepth 20000 in
theorem ggX12_bayAtHand_X12_found : GoodIn wsX12_bayAtHand wsX12_found := goodIn_r _ [19] rfl (by decide +kernel)
set_option maxRecDepth 20000 in
theorem gX12_bayAtHand_X12_found : GoodIn wsX12_bayAtHand (va_wsS RX12 211 yX12_found wsX12_found) := goodIn_app (goodIn_of _ (by decide +kernel)) ggX12_bayAtHand_X12_found
theorem dX12_bayAtHand_0 : decode cX12_bayAtHand 0 = .ok (.aload_n 0, 1) := by decide +kernel
theorem dX12_bayAtHand_1 : decode cX12_bayAtHand 1 = .ok (.getfield 199, 3) := by decide +kernel
theorem dX12_bayAtHand_4 : decode cX12_bayAtHand 4 = .ok (.ifCond .eq 5, 3) := by decide +kernel
theorem dX12_bayAtHand_7 : decode cX12_bayAtHand 7 = .ok (.iconst 0, 1) := by decide +kernel
theorem dX12_bayAtHand_8 : decode cX12_bayAtHand 8 = .ok (.ireturn, 1) := by decide +kernel
theorem dX12_bayAtHand_9 : decode cX12_bayAtHand 9 = .ok (.aload_n 0, 1) := by decide +kernel
theorem dX12_bayAtHand_10 : decode cX12_bayAtHand 10 = .ok (.getfield 164, 3) := by decide +kernel
theorem dX12_bayAtHand_13 : decode cX12_bayAtHand 13 = .ok (.iconst 1, 1) := by decide +kernel
theorem dX12_bayAtHand_14 : decode cX12_bayAtHand 14 = .ok (.if_icmp .eq 11, 3) := by decide +kernel
theorem dX12_bayAtHand_17 : decode cX12_bayAtHand 17 = .ok (.aload_n 0, 1) := by decide +kernel
theorem dX12_bayAtHand_18 : decode cX12_bayAtHand 18 = .ok (.iconst 1, 1) := by decide +kernel
theorem dX12_bayAtHand_19 : decode cX12_bayAtHand 19 = .ok (.invokevirtual 208, 3) := by decide +kernel
theorem dX12_bayAtHand_22 : decode cX12_bayAtHand 22 = .ok (.goto 30, 3) := by decide +kernel
theorem dX12_bayAtHand_25 : decode cX12_bayAtHand 25 = .ok (.aload_n 0, 1) := by decide +kernel
theorem dX12_bayAtHand_26 : decode cX12_bayAtHand 26 = .ok (.getfield 16, 3) := by decide +kernel
theorem dX12_bayAtHand_29 : decode cX12_bayAtHand 29 = .ok (.bipush 8, 2) := by decide +kernel
theorem dX12_bayAtHand_31 : decode cX12_bayAtHand 31 = .ok (.aload_n 0, 1) := by decide +kernel
theorem dX12_bayAtHand_32 : decode cX12_bayAtHand 32 = .ok (.iconst 0, 1) := by decide +kernel
theorem dX12_bayAtHand_33 : decode cX12_bayAtHand 33 = .ok (.invokevirtual 215, 3) := by decide +kernel
theorem dX12_bayAtHand_36 : decode cX12_bayAtHand 36 = .ok (.aload_n 0, 1) := by decide +kernel
theorem dX12_bayAtHand_37 : decode cX12_bayAtHand 37 = .ok (.getfield 174, 3) := by decide +kernel
theorem dX12_bayAtHand_40 : decode cX12_bayAtHand 40 = .ok (.invokestatic 211, 3) := by decide +kernel
theorem dX12_bayAtHand_43 : decode cX12_bayAtHand 43 = .ok (.iconst (-1), 1) := by decide +kernel
theorem dX12_bayAtHand_44 : decode cX12_bayAtHand 44 = .ok (.if_icmp .ne 8, 3) := by decide +kernel
theorem dX12_bayAtHand_47 : decode cX12_bayAtHand 47 = .ok (.aload_n 0, 1) := by decide +kernel
theorem dX12_bayAtHand_48 : decode cX12_bayAtHand 48 = .ok (.iconst 4, 1) := by decide +kernel
theorem dX12_bayAtHand_49 : decode cX12_bayAtHand 49 = .ok (.invokevirtual 208, 3) := by decide +kernel
theorem dX12_bayAtHand_52 : decode cX12_bayAtHand 52 = .ok (.aload_n 0, 1) := by decide +kernel
theorem dX12_bayAtHand_53 : decode cX12_bayAtHand 53 = .ok (.getfield 199, 3) := by decide +kernel
theorem dX12_bayAtHand_56 : decode cX12_bayAtHand 56 = .ok (.ifCond .eq 7, 3) := by decide +kernel
theorem dX12_bayAtHand_59 : decode cX12_bayAtHand 59 = .ok (.iconst 0, 1) := by decide +kernel
theorem dX12_bayAtHand_60 : decode cX12_bayAtHand 60 = .ok (.goto 21, 3) := by decide +kernel
theorem dX12_bayAtHand_63 : decode cX12_bayAtHand 63 = .ok (.aload_n 0, 1) := by decide +kernel
theorem dX12_bayAtHand_64 : decode cX12_bayAtHand 64 = .ok (.getfield 16, 3) := by decide +kernel
theorem dX12_bayAtHand_67 : decode cX12_bayAtHand 67 = .ok (.bipush 8, 2) := by decide +kernel
theorem dX12_bayAtHand_69 : decode cX12_bayAtHand 69 = .ok (.aload_n 0, 1) := by decide +kernel
theorem dX12_bayAtHand_70 : decode cX12_bayAtHand 70 = .ok (.iconst 0, 1) := by decide +kernel
theorem dX12_bayAtHand_71 : decode cX12_bayAtHand 71 = .ok (.invokevirtual 215, 3) := by decide +kernel
theorem dX12_bayAtHand_74 : decode cX12_bayAtHand 74 = .ok (.aload_n 0, 1) := by decide +kernel
theorem dX12_bayAtHand_75 : decode cX12_bayAtHand 75 = .ok (.getfield 174, 3) := by decide +kernel
theorem dX12_bayAtHand_78 : decode cX12_bayAtHand 78 = .ok (.invokestatic 211, 3) := by decide +kernel
theorem dX12_bayAtHand_81 : decode cX12_bayAtHand 81 = .ok (.ireturn, 1) := by decide +kernel
set_option maxRecDepth 20000 in
theorem ggX12_bayAhead_X12_bayAtHand : GoodIn wsX12_bayAhead wsX12_bayAtHand := goodIn_r _ [5, 6, 7, 8, 9, 10, 11, 12, 4, 13, 14, 15, 16, 17, 18, 19, 20, 21, 22, 23, 107, 108, 109, 110, 111, 112, 113, 114, 115, 116, 117, 118, 119, 120, 121, 122, 123, 124, 125, 126, 127, 128, 129, 130, 131, 132, 133, 134, 135, 136, 137, 138, 139, 140, 141, 142, 143, 144, 145, 146, 147, 148, 149, 150, 151, 152, 153, 154, 155, 156, 157, 158, 159, 160, 161, 162, 163, 164, 165, 166, 167, 168, 169, 170, 171, 172] rfl (by decide +kernel)
set_option maxRecDepth 20000 in
theorem gX12_bayAhead_X12_bayAtHand : GoodIn wsX12_bayAhead (wsV RX12 219 RX12 yX12_bayAtHand wsX12_bayAtHand) := goodIn_app (goodIn_r _ [1, 2, 3, 4] rfl (by decide +kernel)) ggX12_bayAhead_X12_bayAtHand
set_option maxRecDepth 20000 in
theorem ggX12_bayAhead_X12_goOn : GoodIn wsX12_bayAhead wsX12_goOn := goodIn_r _ [27, 6, 28, 29, 30, 4, 31, 32, 14, 7, 9, 33, 34, 35, 36, 37, 38, 39, 40, 41, 42, 43, 44, 45, 46, 47, 48, 49, 50, 51, 52, 53, 54, 55, 56, 57, 58, 59, 60, 61, 62, 63, 64, 65, 66, 67, 68, 69, 70, 71, 72, 73, 74, 75, 76, 77, 78, 79, 80, 81, 82, 83, 84, 85, 86, 87, 88, 89, 90, 91, 92, 93, 94, 95, 96, 97, 98, 99, 100, 101, 102, 103, 104, 105, 106, 107, 108, 109, 110, 111, 112, 113, 114, 115, 116, 117, 118, 119, 120, 121, 122, 123, 124, 125, 126, 127, 128, 129, 130, 131, 132, 133, 134, 135, 136, 137, 138, 139, 140, 141, 142, 143, 144, 145, 146, 147, 148, 149, 150, 151, 152, 153, 154, 155, 156, 157, 158, 159, 160, 161, 162, 163, 164, 165, 166, 167, 168, 169, 170, 171, 172] rfl (by decide +kernel)
set_option maxRecDepth 20000 in
theorem gX12_bayAhead_X12_goOn : GoodIn wsX12_bayAhead (wsV RX12 222 RX12 yX12_goOn wsX12_goOn) := goodIn_app (goodIn_r _ [24, 25, 26, 4] rfl (by decide +kernel)) ggX12_bayAhead_X12_goOn
theorem dX12_bayAhead_0 : decode cX12_bayAhead 0 = .ok (.aload_n 0, 1) := by decide +kernel
theorem dX12_bayAhead_1 : decode cX12_bayAhead 1 = .ok (.invokevirtual 219, 3) := by decide +kernel
theorem dX12_bayAhead_4 : decode cX12_bayAhead 4 = .ok (.istore_n 1, 1) := by decide +kernel
theorem dX12_bayAhead_5 : decode cX12_bayAhead 5 = .ok (.aload_n 0, 1) := by decide +kernel
theorem dX12_bayAhead_6 : decode cX12_bayAhead 6 = .ok (.invokevirtual 222, 3) := by decide +kernel
theorem dX12_bayAhead_9 : decode cX12_bayAhead 9 = .ok (.iload_n 1, 1) := by decide +kernel
theorem dX12_bayAhead_10 : decode cX12_bayAhead 10 = .ok (.ireturn, 1) := by decide +kernel
set_option maxRecDepth 20000 in
theorem ggX12_isFull_X12_fresher : GoodIn wsX12_isFull wsX12_fresher := goodIn_r _ [5, 6, 7, 8, 9, 10, 11, 12, 13, 14, 15, 16, 17, 18, 19, 20, 21, 22, 23, 24, 25, 26, 27, 28, 29, 30, 31, 32, 33, 34, 35, 36, 37, 38, 39, 40, 41, 42, 43, 44, 45, 46, 47, 48, 49, 50, 51, 52, 53, 54, 55, 56, 57, 58, 59, 60, 61, 62, 63, 64, 65, 66, 67, 68, 69, 70, 71, 72] rfl (by decide +kernel)
set_option maxRecDepth 20000 in
theorem gX12_isFull_X12_fresher : GoodIn wsX12_isFull (wsV RX12 215 RX12 yX12_fresher wsX12_fresher) := goodIn_app (goodIn_r _ [1, 2, 3, 4] rfl (by decide +kernel)) ggX12_isFull_X12_fresher
theorem dX12_isFull_0 : decode cX12_isFull 0 = .ok (.iload_n 1, 1) := by decide +kernel
theorem dX12_isFull_1 : decode cX12_isFull 1 = .ok (.ifCond .ne 13, 3) := by decide +kernel
theorem dX12_isFull_4 : decode cX12_isFull 4 = .ok (.aload_n 0, 1) := by decide +kernel
theorem dX12_isFull_5 : decode cX12_isFull 5 = .ok (.iconst 0, 1) := by decide +kernel
theorem dX12_isFull_6 : decode cX12_isFull 6 = .ok (.invokevirtual 215, 3) := by decide +kernel
theorem dX12_isFull_9 : decode cX12_isFull 9 = .ok (.bipush 8, 2) := by decide +kernel
theorem dX12_isFull_11 : decode cX12_isFull 11 = .ok (.if_icmp .eq 48, 3) := by decide +kernel
theorem dX12_isFull_14 : decode cX12_isFull 14 = .ok (.iload_n 1, 1) := by decide +kernel
theorem dX12_isFull_15 : decode cX12_isFull 15 = .ok (.iconst 1, 1) := by decide +kernel
theorem dX12_isFull_16 : decode cX12_isFull 16 = .ok (.if_icmp .ne 13, 3) := by decide +kernel
theorem dX12_isFull_19 : decode cX12_isFull 19 = .ok (.aload_n 0, 1) := by decide +kernel
theorem dX12_isFull_20 : decode cX12_isFull 20 = .ok (.iconst 1, 1) := by decide +kernel
theorem dX12_isFull_21 : decode cX12_isFull 21 = .ok (.invokevirtual 215, 3) := by decide +kernel
theorem dX12_isFull_24 : decode cX12_isFull 24 = .ok (.bipush 12, 2) := by decide +kernel
theorem dX12_isFull_26 : decode cX12_isFull 26 = .ok (.if_icmp .eq 33, 3) := by decide +kernel
theorem dX12_isFull_29 : decode cX12_isFull 29 = .ok (.iload_n 1, 1) := by decide +kernel
theorem dX12_isFull_30 : decode cX12_isFull 30 = .ok (.iconst 2, 1) := by decide +kernel
theorem dX12_isFull_31 : decode cX12_isFull 31 = .ok (.if_icmp .ne 13, 3) := by decide +kernel
theorem dX12_isFull_34 : decode cX12_isFull 34 = .ok (.aload_n 0, 1) := by decide +kernel
theorem dX12_isFull_35 : decode cX12_isFull 35 = .ok (.iconst 2, 1) := by decide +kernel
theorem dX12_isFull_36 : decode cX12_isFull 36 = .ok (.invokevirtual 215, 3) := by decide +kernel
theorem dX12_isFull_39 : decode cX12_isFull 39 = .ok (.bipush 12, 2) := by decide +kernel
theorem dX12_isFull_41 : decode cX12_isFull 41 = .ok (.if_icmp .eq 18, 3) := by decide +kernel
theorem dX12_isFull_44 : decode cX12_isFull 44 = .ok (.iload_n 1, 1) := by decide +kernel
theorem dX12_isFull_45 : decode cX12_isFull 45 = .ok (.iconst 3, 1) := by decide +kernel
theorem dX12_isFull_46 : decode cX12_isFull 46 = .ok (.if_icmp .ne 17, 3) := by decide +kernel
theorem dX12_isFull_49 : decode cX12_isFull 49 = .ok (.aload_n 0, 1) := by decide +kernel
theorem dX12_isFull_50 : decode cX12_isFull 50 = .ok (.iconst 3, 1) := by decide +kernel
theorem dX12_isFull_51 : decode cX12_isFull 51 = .ok (.invokevirtual 215, 3) := by decide +kernel
theorem dX12_isFull_54 : decode cX12_isFull 54 = .ok (.bipush 20, 2) := by decide +kernel
theorem dX12_isFull_56 : decode cX12_isFull 56 = .ok (.if_icmp .ne 7, 3) := by decide +kernel
theorem dX12_isFull_59 : decode cX12_isFull 59 = .ok (.iconst 1, 1) := by decide +kernel
theorem dX12_isFull_60 : decode cX12_isFull 60 = .ok (.goto 4, 3) := by decide +kernel
theorem dX12_isFull_63 : decode cX12_isFull 63 = .ok (.iconst 0, 1) := by decide +kernel
theorem dX12_isFull_64 : decode cX12_isFull 64 = .ok (.ireturn, 1) := by decide +kernel
set_option maxRecDepth 20000 in
theorem ggX12_line_X12_wrong : GoodIn wsX12_line wsX12_wrong := goodIn_r _ [16, 4, 17, 18, 190, 191, 192, 193, 194, 195, 196, 197, 198, 199, 200, 201, 202, 203, 204, 205, 206, 207, 208, 209, 210, 211, 212, 213, 214, 215, 216, 217, 218, 219, 220, 221, 222, 223, 224, 225, 226, 227, 228, 229, 230, 231, 232, 233, 234, 235, 236, 237, 238, 239, 240, 241, 242, 243, 244, 245, 246, 247, 248, 249, 250, 251, 252, 253, 254, 255] rfl (by decide +kernel)
set_option maxRecDepth 20000 in
theorem gX12_line_X12_wrong : GoodIn wsX12_line (wsV RX12 208 RX12 yX12_wrong wsX12_wrong) := goodIn_app (goodIn_r _ [12, 13, 14, 15] rfl (by decide +kernel)) ggX12_line_X12_wrong
set_option maxRecDepth 20000 in
theorem ggX12_line_X12_isFull : GoodIn wsX12_line wsX12_isFull := goodIn_r _ [22, 23, 24, 25, 15, 26, 27, 190, 191, 192, 193, 194, 195, 196, 197, 198, 199, 200, 201, 202, 203, 204, 205, 206, 207, 208, 209, 210, 211, 212, 213, 214, 215, 216, 217, 218, 219, 220, 221, 222, 223, 224, 225, 226, 227, 228, 229, 230, 231, 232, 233, 234, 235, 236, 237, 238, 239, 240, 241, 242, 243, 244, 245, 246, 247, 248, 249, 250, 251, 252, 253, 254, 255] rfl (by decide +kernel)
set_option maxRecDepth 20000 in
theorem gX12_line_X12_isFull : GoodIn wsX12_line (wsV RX12 225 RX12 yX12_isFull wsX12_isFull) := goodIn_app (goodIn_r _ [19, 20, 21, 15] rfl (by decide +kernel)) ggX12_line_X12_isFull
set_option maxRecDepth 20000 in
theorem ggX12_line_X12_token : GoodIn wsX12_line wsX12_token := goodIn_r _ [31, 32, 17, 1, 2, 10, 33, 34, 35, 15, 36, 37, 38, 39, 40, 41, 42, 43, 44, 45, 46, 47, 48, 49, 50, 51, 52, 53, 54, 55, 56, 57, 58, 59, 60, 61, 62, 63, 64, 65, 66, 67, 68, 69, 70, 71, 72, 73, 74, 75, 76, 77, 78, 79, 80, 81, 82, 83, 84, 85, 86, 87, 88, 89, 90, 91, 92, 93, 94, 95, 96, 97, 98, 99, 100, 101, 102, 103, 104, 105, 190, 191, 192, 193, 194, 195, 196, 197, 198, 199, 200, 201, 202, 203, 204, 205, 206, 207, 208, 209, 210, 211, 212, 213, 214, 215, 216, 217, 218, 219, 220, 221, 222, 223, 224, 225, 226, 227, 228, 229, 230, 231, 232, 233, 234, 235, 236, 237, 238, 239, 240, 241, 242, 243, 244, 245, 246, 247, 248, 249, 250, 251, 252, 253, 254, 255] rfl (by decide +kernel)
set_option maxRecDepth 20000 in
theorem gX12_line_X12_token : GoodIn wsX12_line (wsV RX12 205 RX12 yX12_token wsX12_token) := goodIn_app (goodIn_r _ [28, 29, 30, 15] rfl (by decide +kernel)) ggX12_line_X12_token
set_option maxRecDepth 20000 in
theorem ggX12_line_X12_fresher : GoodIn wsX12_line wsX12_fresher := goodIn_r _ [26, 27, 190, 191, 192, 193, 194, 195, 196, 197, 198, 199, 200, 201, 202, 203, 204, 205, 206, 207, 208, 209, 210, 211, 212, 213, 214, 215, 216, 217, 218, 219, 220, 221, 222, 223, 224, 225, 226, 227, 228, 229, 230, 231, 232, 233, 234, 235, 236, 237, 238, 239, 240, 241, 242, 243, 244, 245, 246, 247, 248, 249, 250, 251, 252, 253, 254, 255] rfl (by decide +kernel)
set_option maxRecDepth 20000 in
theorem gX12_line_X12_fresher : GoodIn wsX12_line (wsV RX12 215 RX12 yX12_fresher wsX12_fresher) := goodIn_app (goodIn_r _ [23, 24, 25, 15] rfl (by decide +kernel)) ggX12_line_X12_fresher
set_option maxRecDepth 20000 in
theorem ggX12_line_X12_fresh : GoodIn wsX12_line wsX12_fresh := goodIn_r _ [109, 4, 1, 2, 12, 13, 14, 15, 16, 17, 18, 110, 111, 112, 28, 29, 30, 31, 32, 10, 33, 34, 35, 36, 37, 38, 39, 40, 41, 42, 43, 44, 45, 46, 47, 48, 49, 50, 51, 52, 53, 54, 55, 56, 57, 58, 59, 60, 61, 62, 63, 64, 65, 66, 67, 68, 69, 70, 71, 72, 73, 74, 75, 76, 77, 78, 79, 80, 81, 82, 83, 84, 85, 86, 87, 88, 89, 90, 91, 92, 93, 94, 95, 96, 97, 98, 99, 100, 101, 102, 103, 104, 105, 190, 191, 192, 193, 194, 195, 196, 197, 198, 199, 200, 201, 202, 203, 204, 205, 206, 207, 208, 209, 210, 211, 212, 213, 214, 215, 216, 217, 218, 219, 220, 221, 222, 223, 224, 225, 226, 227, 228, 229, 230, 231, 232, 233, 234, 235, 236, 237, 238, 239, 240, 241, 242, 243, 244, 245, 246, 247, 248, 249, 250, 251, 252, 253, 254, 255] rfl (by decide +kernel)
set_option maxRecDepth 20000 in
theorem gX12_line_X12_fresh : GoodIn wsX12_line (wsV RX12 231 RX12 yX12_fresh wsX12_fresh) := goodIn_app (goodIn_r _ [106, 107, 108, 15] rfl (by decide +kernel)) ggX12_line_X12_fresh
set_option maxRecDepth 20000 in
theorem ggX12_line_X12_reads : GoodIn wsX12_line wsX12_reads := goodIn_r _ [116, 27, 190, 191, 192, 193, 194, 195, 196, 197, 198, 199, 200, 201, 202, 203, 204, 205, 206, 207, 208, 209, 210, 211, 212, 213, 214, 215, 216, 217, 218, 219, 220, 221, 222, 223, 224, 225, 226, 227, 228, 229, 230, 231, 232, 233, 234, 235, 236, 237, 238, 239, 240, 241, 242, 243, 244, 245, 246, 247, 248, 249, 250, 251, 252, 253, 254, 255] rfl (by decide +kernel)
set_option maxRecDepth 20000 in
theorem gX12_line_X12_reads : GoodIn wsX12_line (wsV RX12 235 RX12 yX12_reads wsX12_reads) := goodIn_app (goodIn_r _ [113, 114, 115, 15] rfl (by decide +kernel)) ggX12_line_X12_reads
set_option maxRecDepth 20000 in
theorem ggX12_line_X12_laneLine : GoodIn wsX12_line wsX12_laneLine := goodIn_r _ [120, 4, 121, 122, 123, 124, 125, 126, 15, 127, 128, 129, 130, 131, 1, 5, 2, 12, 13, 14, 16, 17, 18, 23, 24, 25, 26, 27, 110, 111, 112, 132, 133, 134, 135, 28, 29, 30, 31, 32, 10, 33, 34, 35, 36, 37, 38, 39, 40, 41, 42, 43, 44, 45, 46, 47, 48, 49, 50, 51, 52, 53, 54, 55, 56, 57, 58, 59, 60, 61, 62, 63, 64, 65, 66, 67, 68, 69, 70, 71, 72, 73, 74, 75, 76, 77, 78, 79, 80, 81, 82, 83, 84, 85, 86, 87, 88, 89, 90, 91, 92, 93, 94, 95, 96, 97, 98, 99, 100, 101, 102, 103, 104, 105, 136, 137, 138, 139, 113, 114, 115, 116, 190, 191, 192, 193, 194, 195, 196, 197, 198, 199, 200, 201, 202, 203, 204, 205, 206, 207, 208, 209, 210, 211, 212, 213, 214, 215, 216, 217, 218, 219, 220, 221, 222, 223, 224, 225, 226, 227, 228, 229, 230, 231, 232, 233, 234, 235, 236, 237, 238, 239, 240, 241, 242, 243, 244, 245, 246, 247, 248, 249, 250, 251, 252, 253, 254, 255] rfl (by decide +kernel)
set_option maxRecDepth 20000 in
theorem gX12_line_X12_laneLine : GoodIn wsX12_line (wsV RX12 239 RX12 yX12_laneLine wsX12_laneLine) := goodIn_app (goodIn_r _ [117, 118, 119, 15] rfl (by decide +kernel)) ggX12_line_X12_laneLine
set_option maxRecDepth 20000 in
theorem ggX12_line_X12_bayAhead : GoodIn wsX12_line wsX12_bayAhead := goodIn_r _ [127, 128, 129, 130, 15, 131, 4, 1, 5, 2, 12, 13, 14, 16, 17, 18, 23, 24, 25, 26, 27, 110, 111, 112, 132, 133, 134, 135, 28, 29, 30, 31, 32, 10, 33, 34, 35, 36, 37, 38, 39, 40, 41, 42, 43, 44, 45, 46, 47, 48, 49, 50, 51, 52, 53, 54, 55, 56, 57, 58, 59, 60, 61, 62, 63, 64, 65, 66, 67, 68, 69, 70, 71, 72, 73, 74, 75, 76, 77, 78, 79, 80, 81, 82, 83, 84, 85, 86, 87, 88, 89, 90, 91, 92, 93, 94, 95, 96, 97, 98, 99, 100, 101, 102, 103, 104, 105, 190, 191, 192, 193, 194, 195, 196, 197, 198, 199, 200, 201, 202, 203, 204, 205, 206, 207, 208, 209, 210, 211, 212, 213, 214, 215, 216, 217, 218, 219, 220, 221, 222, 223, 224, 225, 226, 227, 228, 229, 230, 231, 232, 233, 234, 235, 236, 237, 238, 239, 240, 241, 242, 243, 244, 245, 246, 247, 248, 249, 250, 251, 252, 253, 254, 255] rfl (by decide +kernel)
set_option maxRecDepth 20000 in
theorem gX12_line_X12_bayAhead : GoodIn wsX12_line (wsV RX12 242 RX12 yX12_bayAhead wsX12_bayAhead) := goodIn_app (goodIn_r _ [124, 125, 126, 15] rfl (by decide +kernel)) ggX12_line_X12_bayAhead
set_option maxRecDepth 20000 in
theorem ggX12_line_X12_numeral : GoodIn wsX12_line wsX12_numeral := goodIn_r _ [139, 4, 1, 2, 12, 13, 14, 15, 16, 17, 18, 28, 29, 30, 31, 32, 10, 33, 34, 35, 36, 37, 38, 39, 40, 41, 42, 43, 44, 45, 46, 47, 48, 49, 50, 51, 52, 53, 54, 55, 56, 57, 58, 59, 60, 61, 62, 63, 64, 65, 66, 67, 68, 69, 70, 71, 72, 73, 74, 75, 76, 77, 78, 79, 80, 81, 82, 83, 84, 85, 86, 87, 88, 89, 90, 91, 92, 93, 94, 95, 96, 97, 98, 99, 100, 101, 102, 103, 104, 105, 190, 191, 192, 193, 194, 195, 196, 197, 198, 199, 200, 201, 202, 203, 204, 205, 206, 207, 208, 209, 210, 211, 212, 213, 214, 215, 216, 217, 218, 219, 220, 221, 222, 223, 224, 225, 226, 227, 228, 229, 230, 231, 232, 233, 234, 235, 236, 237, 238, 239, 240, 241, 242, 243, 244, 245, 246, 247, 248, 249, 250, 251, 252, 253, 254, 255] rfl (by decide +kernel)
set_option maxRecDepth 20000 in
theorem gX12_line_X12_numeral : GoodIn wsX12_line (wsV RX12 245 RX12 yX12_numeral wsX12_numeral) := goodIn_app (goodIn_r _ [136, 137, 138, 15] rfl (by decide +kernel)) ggX12_line_X12_numeral
set_option maxRecDepth 20000 in
theorem ggX12_line_X12_lawLine : GoodIn wsX12_line wsX12_lawLine := goodIn_r _ [143, 1, 2, 4, 3, 144, 145, 12, 13, 14, 15, 16, 17, 18, 28, 29, 30, 31, 32, 10, 33, 34, 35, 36, 37, 38, 39, 40, 41, 42, 43, 44, 45, 46, 47, 48, 49, 50, 51, 52, 53, 54, 55, 56, 57, 58, 59, 60, 61, 62, 63, 64, 65, 66, 67, 68, 69, 70, 71, 72, 73, 74, 75, 76, 77, 78, 79, 80, 81, 82, 83, 84, 85, 86, 87, 88, 89, 90, 91, 92, 93, 94, 95, 96, 97, 98, 99, 100, 101, 102, 103, 104, 105, 23, 24, 25, 26, 27, 146, 147, 148, 149, 150, 151, 152, 153, 154, 155, 156, 157, 158, 159, 160, 161, 132, 133, 134, 135, 162, 163, 164, 165, 166, 167, 113, 114, 115, 116, 168, 169, 170, 171, 172, 173, 174, 175, 176, 177, 178, 179, 180, 181, 182, 183, 184, 185, 186, 187, 188, 189, 190, 191, 192, 193, 194, 195, 196, 197, 198, 199, 200, 201, 202, 203, 204, 205, 206, 207, 208, 209, 210, 211, 212, 213, 214, 215, 216, 217, 218, 219, 220, 221, 222, 223, 224, 225, 226, 227, 228, 229, 230, 231, 232, 233, 234, 235, 236, 237, 238, 239, 240, 241, 242, 243, 244, 245, 246, 247, 248, 249, 250, 251, 252, 253, 254, 255] rfl (by decide +kernel)
set_option maxRecDepth 20000 in
theorem gX12_line_X12_lawLine : GoodIn wsX12_line (wsV RX12 249 RX12 yX12_lawLine wsX12_lawLine) := goodIn_app (goodIn_r _ [140, 141, 142, 15] rfl (by decide +kernel)) ggX12_line_X12_lawLine
set_option maxRecDepth 20000 in
theorem ggX12_line_X12_isSign : GoodIn wsX12_line wsX12_isSign := goodIn_r _ [181, 4, 1, 2, 190, 191, 192, 193, 194, 195, 196, 197, 198, 199, 200, 201, 202, 203, 204, 205, 206, 207, 208, 209, 210, 211, 212, 213, 214, 215, 216, 217, 218, 219, 220, 221, 222, 223, 224, 225, 226, 227, 228, 229, 230, 231, 232, 233, 234, 235, 236, 237, 238, 239, 240, 241, 242, 243, 244, 245, 246, 247, 248, 249, 250, 251, 252, 253, 254, 255] rfl (by decide +kernel)
set_option maxRecDepth 20000 in
theorem gX12_line_X12_isSign : GoodIn wsX12_line (wsV RX12 252 RX12 yX12_isSign wsX12_isSign) := goodIn_app (goodIn_r _ [178, 179, 180, 15] rfl (by decide +kernel)) ggX12_line_X12_isSign
theorem dX12_line_0 : decode cX12_line 0 = .ok (.aload_n 0, 1) := by decide +kernel
theorem dX12_line_1 : decode cX12_line 1 = .ok (.getfield 164, 3) := by decide +kernel
theorem dX12_line_4 : decode cX12_line 4 = .ok (.ifCond .ne 12, 3) := by decide +kernel
theorem dX12_line_7 : decode cX12_line 7 = .ok (.aload_n 0, 1) := by decide +kernel
theorem dX12_line_8 : decode cX12_line 8 = .ok (.getfield 174, 3) := by decide +kernel
theorem dX12_line_11 : decode cX12_line 11 = .ok (.bipush 8, 2) := by decide +kernel
theorem dX12_line_13 : decode cX12_line 13 = .ok (.if_icmp .le 9, 3) := by decide +kernel
theorem dX12_line_16 : decode cX12_line 16 = .ok (.aload_n 0, 1) := by decide +kernel
theorem dX12_line_17 : decode cX12_line 17 = .ok (.iconst 1, 1) := by decide +kernel
theorem dX12_line_18 : decode cX12_line 18 = .ok (.invokevirtual 208, 3) := by decide +kernel
theorem dX12_line_21 : decode cX12_line 21 = .ok (.return_, 1) := by decide +kernel
theorem dX12_line_22 : decode cX12_line 22 = .ok (.aload_n 0, 1) := by decide +kernel
theorem dX12_line_23 : decode cX12_line 23 = .ok (.getfield 174, 3) := by decide +kernel
theorem dX12_line_26 : decode cX12_line 26 = .ok (.istore_n 1, 1) := by decide +kernel
theorem dX12_line_27 : decode cX12_line 27 = .ok (.aload_n 0, 1) := by decide +kernel
theorem dX12_line_28 : decode cX12_line 28 = .ok (.iload_n 1, 1) := by decide +kernel
theorem dX12_line_29 : decode cX12_line 29 = .ok (.invokevirtual 225, 3) := by decide +kernel
theorem dX12_line_32 : decode cX12_line 32 = .ok (.ifCond .eq 11, 3) := by decide +kernel
theorem dX12_line_35 : decode cX12_line 35 = .ok (.aload_n 0, 1) := by decide +kernel
theorem dX12_line_36 : decode cX12_line 36 = .ok (.iconst 2, 1) := by decide +kernel
theorem dX12_line_37 : decode cX12_line 37 = .ok (.invokevirtual 208, 3) := by decide +kernel
theorem dX12_line_40 : decode cX12_line 40 = .ok (.goto 31, 3) := by decide +kernel
theorem dX12_line_43 : decode cX12_line 43 = .ok (.iload_n 1, 1) := by decide +kernel
theorem dX12_line_44 : decode cX12_line 44 = .ok (.iconst 4, 1) := by decide +kernel
theorem dX12_line_45 : decode cX12_line 45 = .ok (.if_icmp .lt 26, 3) := by decide +kernel
theorem dX12_line_48 : decode cX12_line 48 = .ok (.iload_n 1, 1) := by decide +kernel
theorem dX12_line_49 : decode cX12_line 49 = .ok (.bipush 7, 2) := by decide +kernel
theorem dX12_line_51 : decode cX12_line 51 = .ok (.if_icmp .gt 20, 3) := by decide +kernel
theorem dX12_line_54 : decode cX12_line 54 = .ok (.aload_n 0, 1) := by decide +kernel
theorem dX12_line_55 : decode cX12_line 55 = .ok (.getfield 228, 3) := by decide +kernel
theorem dX12_line_58 : decode cX12_line 58 = .ok (.iload_n 1, 1) := by decide +kernel
theorem dX12_line_59 : decode cX12_line 59 = .ok (.ishr, 1) := by decide +kernel
theorem dX12_line_60 : decode cX12_line 60 = .ok (.iconst 1, 1) := by decide +kernel
theorem dX12_line_61 : decode cX12_line 61 = .ok (.iand, 1) := by decide +kernel
theorem dX12_line_62 : decode cX12_line 62 = .ok (.iconst 1, 1) := by decide +kernel
theorem dX12_line_63 : decode cX12_line 63 = .ok (.if_icmp .ne 8, 3) := by decide +kernel
theorem dX12_line_66 : decode cX12_line 66 = .ok (.aload_n 0, 1) := by decide +kernel
theorem dX12_line_67 : decode cX12_line 67 = .ok (.iconst 3, 1) := by decide +kernel
theorem dX12_line_68 : decode cX12_line 68 = .ok (.invokevirtual 208, 3) := by decide +kernel
theorem dX12_line_71 : decode cX12_line 71 = .ok (.aload_n 0, 1) := by decide +kernel
theorem dX12_line_72 : decode cX12_line 72 = .ok (.getfield 199, 3) := by decide +kernel
theorem dX12_line_75 : decode cX12_line 75 = .ok (.ifCond .eq 4, 3) := by decide +kernel
theorem dX12_line_78 : decode cX12_line 78 = .ok (.return_, 1) := by decide +kernel
theorem dX12_line_79 : decode cX12_line 79 = .ok (.aload_n 0, 1) := by decide +kernel
theorem dX12_line_80 : decode cX12_line 80 = .ok (.dup, 1) := by decide +kernel
theorem dX12_line_81 : decode cX12_line 81 = .ok (.getfield 228, 3) := by decide +kernel
theorem dX12_line_84 : decode cX12_line 84 = .ok (.iconst 1, 1) := by decide +kernel
theorem dX12_line_85 : decode cX12_line 85 = .ok (.iload_n 1, 1) := by decide +kernel
theorem dX12_line_86 : decode cX12_line 86 = .ok (.ishl, 1) := by decide +kernel
theorem dX12_line_87 : decode cX12_line 87 = .ok (.ior, 1) := by decide +kernel
theorem dX12_line_88 : decode cX12_line 88 = .ok (.putfield 228, 3) := by decide +kernel
theorem dX12_line_91 : decode cX12_line 91 = .ok (.aload_n 0, 1) := by decide +kernel
theorem dX12_line_92 : decode cX12_line 92 = .ok (.invokevirtual 205, 3) := by decide +kernel
theorem dX12_line_95 : decode cX12_line 95 = .ok (.iload_n 1, 1) := by decide +kernel
theorem dX12_line_96 : decode cX12_line 96 = .ok (.tableswitch 260 0 7 #[48, 91, 106, 166, 201, 213, 228, 244], 48) := by decide +kernel
theorem dX12_line_144 : decode cX12_line 144 = .ok (.aload_n 0, 1) := by decide +kernel
theorem dX12_line_145 : decode cX12_line 145 = .ok (.getfield 16, 3) := by decide +kernel
theorem dX12_line_148 : decode cX12_line 148 = .ok (.bipush 8, 2) := by decide +kernel
theorem dX12_line_150 : decode cX12_line 150 = .ok (.aload_n 0, 1) := by decide +kernel
theorem dX12_line_151 : decode cX12_line 151 = .ok (.iconst 0, 1) := by decide +kernel
theorem dX12_line_152 : decode cX12_line 152 = .ok (.invokevirtual 215, 3) := by decide +kernel
theorem dX12_line_155 : decode cX12_line 155 = .ok (.iadd, 1) := by decide +kernel
theorem dX12_line_156 : decode cX12_line 156 = .ok (.aload_n 0, 1) := by decide +kernel
theorem dX12_line_157 : decode cX12_line 157 = .ok (.aload_n 0, 1) := by decide +kernel
theorem dX12_line_158 : decode cX12_line 158 = .ok (.getfield 16, 3) := by decide +kernel
theorem dX12_line_161 : decode cX12_line 161 = .ok (.bipush 8, 2) := by decide +kernel
theorem dX12_line_163 : decode cX12_line 163 = .ok (.aload_n 0, 1) := by decide +kernel
theorem dX12_line_164 : decode cX12_line 164 = .ok (.iconst 0, 1) := by decide +kernel
theorem dX12_line_165 : decode cX12_line 165 = .ok (.invokevirtual 215, 3) := by decide +kernel
theorem dX12_line_168 : decode cX12_line 168 = .ok (.invokevirtual 231, 3) := by decide +kernel
theorem dX12_line_171 : decode cX12_line 171 = .ok (.iastore, 1) := by decide +kernel
theorem dX12_line_172 : decode cX12_line 172 = .ok (.aload_n 0, 1) := by decide +kernel
theorem dX12_line_173 : decode cX12_line 173 = .ok (.iconst 0, 1) := by decide +kernel
theorem dX12_line_174 : decode cX12_line 174 = .ok (.aload_n 0, 1) := by decide +kernel
theorem dX12_line_175 : decode cX12_line 175 = .ok (.iconst 0, 1) := by decide +kernel
theorem dX12_line_176 : decode cX12_line 176 = .ok (.invokevirtual 215, 3) := by decide +kernel
theorem dX12_line_179 : decode cX12_line 179 = .ok (.iconst 1, 1) := by decide +kernel
theorem dX12_line_180 : decode cX12_line 180 = .ok (.iadd, 1) := by decide +kernel
theorem dX12_line_181 : decode cX12_line 181 = .ok (.invokevirtual 235, 3) := by decide +kernel
theorem dX12_line_184 : decode cX12_line 184 = .ok (.goto 176, 3) := by decide +kernel
theorem dX12_line_187 : decode cX12_line 187 = .ok (.aload_n 0, 1) := by decide +kernel
theorem dX12_line_188 : decode cX12_line 188 = .ok (.bipush 12, 2) := by decide +kernel
theorem dX12_line_190 : decode cX12_line 190 = .ok (.aload_n 0, 1) := by decide +kernel
theorem dX12_line_191 : decode cX12_line 191 = .ok (.iconst 1, 1) := by decide +kernel
theorem dX12_line_192 : decode cX12_line 192 = .ok (.invokevirtual 215, 3) := by decide +kernel
theorem dX12_line_195 : decode cX12_line 195 = .ok (.iadd, 1) := by decide +kernel
theorem dX12_line_196 : decode cX12_line 196 = .ok (.invokevirtual 239, 3) := by decide +kernel
theorem dX12_line_199 : decode cX12_line 199 = .ok (.goto 161, 3) := by decide +kernel
theorem dX12_line_202 : decode cX12_line 202 = .ok (.bipush 12, 2) := by decide +kernel
theorem dX12_line_204 : decode cX12_line 204 = .ok (.aload_n 0, 1) := by decide +kernel
theorem dX12_line_205 : decode cX12_line 205 = .ok (.iconst 2, 1) := by decide +kernel
theorem dX12_line_206 : decode cX12_line 206 = .ok (.invokevirtual 215, 3) := by decide +kernel
theorem dX12_line_209 : decode cX12_line 209 = .ok (.iadd, 1) := by decide +kernel
theorem dX12_line_210 : decode cX12_line 210 = .ok (.istore_n 2, 1) := by decide +kernel
theorem dX12_line_211 : decode cX12_line 211 = .ok (.aload_n 0, 1) := by decide +kernel
theorem dX12_line_212 : decode cX12_line 212 = .ok (.getfield 28, 3) := by decide +kernel
theorem dX12_line_215 : decode cX12_line 215 = .ok (.iload_n 2, 1) := by decide +kernel
theorem dX12_line_216 : decode cX12_line 216 = .ok (.aload_n 0, 1) := by decide +kernel
theorem dX12_line_217 : decode cX12_line 217 = .ok (.invokevirtual 242, 3) := by decide +kernel
theorem dX12_line_220 : decode cX12_line 220 = .ok (.iastore, 1) := by decide +kernel
theorem dX12_line_221 : decode cX12_line 221 = .ok (.aload_n 0, 1) := by decide +kernel
theorem dX12_line_222 : decode cX12_line 222 = .ok (.getfield 31, 3) := by decide +kernel
theorem dX12_line_225 : decode cX12_line 225 = .ok (.iload_n 2, 1) := by decide +kernel
theorem dX12_line_226 : decode cX12_line 226 = .ok (.aload_n 0, 1) := by decide +kernel
theorem dX12_line_227 : decode cX12_line 227 = .ok (.iconst 0, 1) := by decide +kernel
theorem dX12_line_228 : decode cX12_line 228 = .ok (.bipush 99, 2) := by decide +kernel
theorem dX12_line_230 : decode cX12_line 230 = .ok (.invokevirtual 245, 3) := by decide +kernel
theorem dX12_line_233 : decode cX12_line 233 = .ok (.iastore, 1) := by decide +kernel
theorem dX12_line_234 : decode cX12_line 234 = .ok (.aload_n 0, 1) := by decide +kernel
theorem dX12_line_235 : decode cX12_line 235 = .ok (.getfield 34, 3) := by decide +kernel
theorem dX12_line_238 : decode cX12_line 238 = .ok (.iload_n 2, 1) := by decide +kernel
theorem dX12_line_239 : decode cX12_line 239 = .ok (.aload_n 0, 1) := by decide +kernel
theorem dX12_line_240 : decode cX12_line 240 = .ok (.iconst 0, 1) := by decide +kernel
theorem dX12_line_241 : decode cX12_line 241 = .ok (.bipush 9, 2) := by decide +kernel
theorem dX12_line_243 : decode cX12_line 243 = .ok (.invokevirtual 245, 3) := by decide +kernel
theorem dX12_line_246 : decode cX12_line 246 = .ok (.iastore, 1) := by decide +kernel
theorem dX12_line_247 : decode cX12_line 247 = .ok (.aload_n 0, 1) := by decide +kernel
theorem dX12_line_248 : decode cX12_line 248 = .ok (.iconst 2, 1) := by decide +kernel
theorem dX12_line_249 : decode cX12_line 249 = .ok (.aload_n 0, 1) := by decide +kernel
theorem dX12_line_250 : decode cX12_line 250 = .ok (.iconst 2, 1) := by decide +kernel
theorem dX12_line_251 : decode cX12_line 251 = .ok (.invokevirtual 215, 3) := by decide +kernel
theorem dX12_line_254 : decode cX12_line 254 = .ok (.iconst 1, 1) := by decide +kernel
theorem dX12_line_255 : decode cX12_line 255 = .ok (.iadd, 1) := by decide +kernel
theorem dX12_line_256 : decode cX12_line 256 = .ok (.invokevirtual 235, 3) := by decide +kernel
theorem dX12_line_259 : decode cX12_line 259 = .ok (.goto 101, 3) := by decide +kernel
theorem dX12_line_262 : decode cX12_line 262 = .ok (.aload_n 0, 1) := by decide +kernel
theorem dX12_line_263 : decode cX12_line 263 = .ok (.getfield 37, 3) := by decide +kernel
theorem dX12_line_266 : decode cX12_line 266 = .ok (.bipush 20, 2) := by decide +kernel
theorem dX12_line_268 : decode cX12_line 268 = .ok (.aload_n 0, 1) := by decide +kernel
theorem dX12_line_269 : decode cX12_line 269 = .ok (.iconst 3, 1) := by decide +kernel
theorem dX12_line_270 : decode cX12_line 270 = .ok (.invokevirtual 215, 3) := by decide +kernel
theorem dX12_line_273 : decode cX12_line 273 = .ok (.iadd, 1) := by decide +kernel
theorem dX12_line_274 : decode cX12_line 274 = .ok (.aload_n 0, 1) := by decide +kernel
theorem dX12_line_275 : decode cX12_line 275 = .ok (.iconst 0, 1) := by decide +kernel
theorem dX12_line_276 : decode cX12_line 276 = .ok (.bipush 9, 2) := by decide +kernel
theorem dX12_line_278 : decode cX12_line 278 = .ok (.invokevirtual 245, 3) := by decide +kernel
theorem dX12_line_281 : decode cX12_line 281 = .ok (.iastore, 1) := by decide +kernel
theorem dX12_line_282 : decode cX12_line 282 = .ok (.aload_n 0, 1) := by decide +kernel
theorem dX12_line_283 : decode cX12_line 283 = .ok (.iconst 3, 1) := by decide +kernel
theorem dX12_line_284 : decode cX12_line 284 = .ok (.aload_n 0, 1) := by decide +kernel
theorem dX12_line_285 : decode cX12_line 285 = .ok (.iconst 3, 1) := by decide +kernel
theorem dX12_line_286 : decode cX12_line 286 = .ok (.invokevirtual 215, 3) := by decide +kernel
theorem dX12_line_289 : decode cX12_line 289 = .ok (.iconst 1, 1) := by decide +kernel
theorem dX12_line_290 : decode cX12_line 290 = .ok (.iadd, 1) := by decide +kernel
theorem dX12_line_291 : decode cX12_line 291 = .ok (.invokevirtual 235, 3) := by decide +kernel
theorem dX12_line_294 : decode cX12_line 294 = .ok (.goto 66, 3) := by decide +kernel
theorem dX12_line_297 : decode cX12_line 297 = .ok (.aload_n 0, 1) := by decide +kernel
theorem dX12_line_298 : decode cX12_line 298 = .ok (.iconst 4, 1) := by decide +kernel
theorem dX12_line_299 : decode cX12_line 299 = .ok (.aload_n 0, 1) := by decide +kernel
theorem dX12_line_300 : decode cX12_line 300 = .ok (.invokevirtual 242, 3) := by decide +kernel
theorem dX12_line_303 : decode cX12_line 303 = .ok (.invokevirtual 235, 3) := by decide +kernel
theorem dX12_line_306 : decode cX12_line 306 = .ok (.goto 54, 3) := by decide +kernel
theorem dX12_line_309 : decode cX12_line 309 = .ok (.aload_n 0, 1) := by decide +kernel
theorem dX12_line_310 : decode cX12_line 310 = .ok (.iconst 5, 1) := by decide +kernel
theorem dX12_line_311 : decode cX12_line 311 = .ok (.aload_n 0, 1) := by decide +kernel
theorem dX12_line_312 : decode cX12_line 312 = .ok (.iconst 1, 1) := by decide +kernel
theorem dX12_line_313 : decode cX12_line 313 = .ok (.bipush 9, 2) := by decide +kernel
theorem dX12_line_315 : decode cX12_line 315 = .ok (.invokevirtual 245, 3) := by decide +kernel
theorem dX12_line_318 : decode cX12_line 318 = .ok (.invokevirtual 235, 3) := by decide +kernel
theorem dX12_line_321 : decode cX12_line 321 = .ok (.goto 39, 3) := by decide +kernel
theorem dX12_line_324 : decode cX12_line 324 = .ok (.aload_n 0, 1) := by decide +kernel
theorem dX12_line_325 : decode cX12_line 325 = .ok (.bipush 6, 2) := by decide +kernel
theorem dX12_line_327 : decode cX12_line 327 = .ok (.aload_n 0, 1) := by decide +kernel
theorem dX12_line_328 : decode cX12_line 328 = .ok (.iconst 0, 1) := by decide +kernel
theorem dX12_line_329 : decode cX12_line 329 = .ok (.bipush 100, 2) := by decide +kernel
theorem dX12_line_331 : decode cX12_line 331 = .ok (.invokevirtual 245, 3) := by decide +kernel
theorem dX12_line_334 : decode cX12_line 334 = .ok (.invokevirtual 235, 3) := by decide +kernel
theorem dX12_line_337 : decode cX12_line 337 = .ok (.goto 23, 3) := by decide +kernel
theorem dX12_line_340 : decode cX12_line 340 = .ok (.aload_n 0, 1) := by decide +kernel
theorem dX12_line_341 : decode cX12_line 341 = .ok (.bipush 7, 2) := by decide +kernel
theorem dX12_line_343 : decode cX12_line 343 = .ok (.aload_n 0, 1) := by decide +kernel
theorem dX12_line_344 : decode cX12_line 344 = .ok (.iconst 0, 1) := by decide +kernel
theorem dX12_line_345 : decode cX12_line 345 = .ok (.ldc 183, 2) := by decide +kernel
theorem dX12_line_347 : decode cX12_line 347 = .ok (.invokevirtual 245, 3) := by decide +kernel
theorem dX12_line_350 : decode cX12_line 350 = .ok (.invokevirtual 235, 3) := by decide +kernel
theorem dX12_line_353 : decode cX12_line 353 = .ok (.goto 7, 3) := by decide +kernel
theorem dX12_line_356 : decode cX12_line 356 = .ok (.aload_n 0, 1) := by decide +kernel
theorem dX12_line_357 : decode cX12_line 357 = .ok (.invokevirtual 249, 3) := by decide +kernel
theorem dX12_line_360 : decode cX12_line 360 = .ok (.aload_n 0, 1) := by decide +kernel
theorem dX12_line_361 : decode cX12_line 361 = .ok (.getfield 199, 3) := by decide +kernel
theorem dX12_line_364 : decode cX12_line 364 = .ok (.ifCond .eq 4, 3) := by decide +kernel
theorem dX12_line_367 : decode cX12_line 367 = .ok (.return_, 1) := by decide +kernel
theorem dX12_line_368 : decode cX12_line 368 = .ok (.aload_n 0, 1) := by decide +kernel
theorem dX12_line_369 : decode cX12_line 369 = .ok (.bipush 59, 2) := by decide +kernel
theorem dX12_line_371 : decode cX12_line 371 = .ok (.invokevirtual 252, 3) := by decide +kernel
theorem dX12_line_374 : decode cX12_line 374 = .ok (.ifCond .ne 11, 3) := by decide +kernel
theorem dX12_line_377 : decode cX12_line 377 = .ok (.aload_n 0, 1) := by decide +kernel
theorem dX12_line_378 : decode cX12_line 378 = .ok (.iconst 1, 1) := by decide +kernel
theorem dX12_line_379 : decode cX12_line 379 = .ok (.invokevirtual 208, 3) := by decide +kernel
theorem dX12_line_382 : decode cX12_line 382 = .ok (.goto 7, 3) := by decide +kernel
theorem dX12_line_385 : decode cX12_line 385 = .ok (.aload_n 0, 1) := by decide +kernel
theorem dX12_line_386 : decode cX12_line 386 = .ok (.invokevirtual 205, 3) := by decide +kernel
theorem dX12_line_389 : decode cX12_line 389 = .ok (.aload_n 0, 1) := by decide +kernel
theorem dX12_line_390 : decode cX12_line 390 = .ok (.dup, 1) := by decide +kernel
theorem dX12_line_391 : decode cX12_line 391 = .ok (.getfield 255, 3) := by decide +kernel
theorem dX12_line_394 : decode cX12_line 394 = .ok (.iconst 1, 1) := by decide +kernel
theorem dX12_line_395 : decode cX12_line 395 = .ok (.iadd, 1) := by decide +kernel
theorem dX12_line_396 : decode cX12_line 396 = .ok (.putfield 255, 3) := by decide +kernel
theorem dX12_line_399 : decode cX12_line 399 = .ok (.return_, 1) := by decide +kernel
set_option maxRecDepth 20000 in
theorem ggX12_laneLine_X12_bayAhead : GoodIn wsX12_laneLine wsX12_bayAhead := goodIn_r _ [9, 10, 11, 12, 8, 13, 1, 14, 15, 16, 17, 18, 19, 20, 21, 22, 23, 24, 25, 26, 27, 28, 29, 30, 31, 32, 33, 34, 35, 36, 37, 38, 39, 40, 41, 42, 43, 44, 45, 46, 47, 48, 49, 50, 51, 52, 53, 54, 55, 56, 57, 58, 59, 60, 61, 62, 63, 64, 65, 66, 67, 68, 69, 70, 71, 72, 73, 74, 75, 76, 77, 78, 79, 80, 81, 82, 83, 84, 85, 86, 87, 88, 89, 90, 91, 92, 93, 94, 95, 96, 97, 98, 99, 100, 101, 102, 103, 104, 105, 106, 107, 108, 109, 110, 111, 112, 113, 122, 123, 124, 125, 126, 127, 128, 129, 130, 131, 132, 133, 134, 135, 136, 137, 138, 139, 140, 141, 142, 143, 144, 145, 146, 147, 148, 149, 150, 151, 152, 153, 154, 155, 156, 157, 158, 159, 160, 161, 162, 163, 164, 165, 166, 167, 168, 169, 170, 171, 172, 173, 174, 175, 176, 177, 178, 179, 180, 181, 182, 183, 184, 185, 186, 187] rfl (by decide +kernel)
set_option maxRecDepth 20000 in
theorem gX12_laneLine_X12_bayAhead : GoodIn wsX12_laneLine (wsV RX12 242 RX12 yX12_bayAhead wsX12_bayAhead) := goodIn_app (goodIn_r _ [5, 6, 7, 8] rfl (by decide +kernel)) ggX12_laneLine_X12_bayAhead
set_option maxRecDepth 20000 in
theorem ggX12_laneLine_X12_bayAtHand : GoodIn wsX12_laneLine wsX12_bayAtHand := goodIn_r _ [13, 1, 14, 15, 16, 17, 18, 19, 8, 20, 21, 22, 23, 24, 25, 26, 27, 28, 29, 30, 122, 123, 124, 125, 126, 127, 128, 129, 130, 131, 132, 133, 134, 135, 136, 137, 138, 139, 140, 141, 142, 143, 144, 145, 146, 147, 148, 149, 150, 151, 152, 153, 154, 155, 156, 157, 158, 159, 160, 161, 162, 163, 164, 165, 166, 167, 168, 169, 170, 171, 172, 173, 174, 175, 176, 177, 178, 179, 180, 181, 182, 183, 184, 185, 186, 187] rfl (by decide +kernel)
set_option maxRecDepth 20000 in
theorem gX12_laneLine_X12_bayAtHand : GoodIn wsX12_laneLine (wsV RX12 219 RX12 yX12_bayAtHand wsX12_bayAtHand) := goodIn_app (goodIn_r _ [10, 11, 12, 8] rfl (by decide +kernel)) ggX12_laneLine_X12_bayAtHand
set_option maxRecDepth 20000 in
theorem ggX12_laneLine_X12_wrong : GoodIn wsX12_laneLine wsX12_wrong := goodIn_r _ [20, 1, 21, 22, 122, 123, 124, 125, 126, 127, 128, 129, 130, 131, 132, 133, 134, 135, 136, 137, 138, 139, 140, 141, 142, 143, 144, 145, 146, 147, 148, 149, 150, 151, 152, 153, 154, 155, 156, 157, 158, 159, 160, 161, 162, 163, 164, 165, 166, 167, 168, 169, 170, 171, 172, 173, 174, 175, 176, 177, 178, 179, 180, 181, 182, 183, 184, 185, 186, 187] rfl (by decide +kernel)
set_option maxRecDepth 20000 in
theorem gX12_laneLine_X12_wrong : GoodIn wsX12_laneLine (wsV RX12 208 RX12 yX12_wrong wsX12_wrong) := goodIn_app (goodIn_r _ [17, 18, 19, 8] rfl (by decide +kernel)) ggX12_laneLine_X12_wrong
set_option maxRecDepth 20000 in
theorem ggX12_laneLine_X12_goOn : GoodIn wsX12_laneLine wsX12_goOn := goodIn_r _ [34, 1, 35, 36, 37, 8, 38, 39, 21, 14, 16, 40, 41, 42, 43, 44, 45, 46, 47, 48, 49, 50, 51, 52, 53, 54, 55, 56, 57, 58, 59, 60, 61, 62, 63, 64, 65, 66, 67, 68, 69, 70, 71, 72, 73, 74, 75, 76, 77, 78, 79, 80, 81, 82, 83, 84, 85, 86, 87, 88, 89, 90, 91, 92, 93, 94, 95, 96, 97, 98, 99, 100, 101, 102, 103, 104, 105, 106, 107, 108, 109, 110, 111, 112, 113, 122, 123, 124, 125, 126, 127, 128, 129, 130, 131, 132, 133, 134, 135, 136, 137, 138, 139, 140, 141, 142, 143, 144, 145, 146, 147, 148, 149, 150, 151, 152, 153, 154, 155, 156, 157, 158, 159, 160, 161, 162, 163, 164, 165, 166, 167, 168, 169, 170, 171, 172, 173, 174, 175, 176, 177, 178, 179, 180, 181, 182, 183, 184, 185, 186, 187] rfl (by decide +kernel)
set_option maxRecDepth 20000 in
theorem gX12_laneLine_X12_goOn : GoodIn wsX12_laneLine (wsV RX12 222 RX12 yX12_goOn wsX12_goOn) := goodIn_app (goodIn_r _ [31, 32, 33, 8] rfl (by decide +kernel)) ggX12_laneLine_X12_goOn
set_option maxRecDepth 20000 in
theorem ggX12_laneLine_X12_numeral : GoodIn wsX12_laneLine wsX12_numeral := goodIn_r _ [117, 1, 14, 16, 17, 18, 19, 8, 20, 21, 22, 35, 36, 37, 38, 39, 40, 41, 42, 43, 44, 45, 46, 47, 48, 49, 50, 51, 52, 53, 54, 55, 56, 57, 58, 59, 60, 61, 62, 63, 64, 65, 66, 67, 68, 69, 70, 71, 72, 73, 74, 75, 76, 77, 78, 79, 80, 81, 82, 83, 84, 85, 86, 87, 88, 89, 90, 91, 92, 93, 94, 95, 96, 97, 98, 99, 100, 101, 102, 103, 104, 105, 106, 107, 108, 109, 110, 111, 112, 113, 122, 123, 124, 125, 126, 127, 128, 129, 130, 131, 132, 133, 134, 135, 136, 137, 138, 139, 140, 141, 142, 143, 144, 145, 146, 147, 148, 149, 150, 151, 152, 153, 154, 155, 156, 157, 158, 159, 160, 161, 162, 163, 164, 165, 166, 167, 168, 169, 170, 171, 172, 173, 174, 175, 176, 177, 178, 179, 180, 181, 182, 183, 184, 185, 186, 187] rfl (by decide +kernel)
set_option maxRecDepth 20000 in
theorem gX12_laneLine_X12_numeral : GoodIn wsX12_laneLine (wsV RX12 245 RX12 yX12_numeral wsX12_numeral) := goodIn_app (goodIn_r _ [114, 115, 116, 8] rfl (by decide +kernel)) ggX12_laneLine_X12_numeral
set_option maxRecDepth 20000 in
theorem ggX12_laneLine_X12_fresher : GoodIn wsX12_laneLine wsX12_fresher := goodIn_r _ [26, 27, 122, 123, 124, 125, 126, 127, 128, 129, 130, 131, 132, 133, 134, 135, 136, 137, 138, 139, 140, 141, 142, 143, 144, 145, 146, 147, 148, 149, 150, 151, 152, 153, 154, 155, 156, 157, 158, 159, 160, 161, 162, 163, 164, 165, 166, 167, 168, 169, 170, 171, 172, 173, 174, 175, 176, 177, 178, 179, 180, 181, 182, 183, 184, 185, 186, 187] rfl (by decide +kernel)
set_option maxRecDepth 20000 in
theorem gX12_laneLine_X12_fresher : GoodIn wsX12_laneLine (wsV RX12 215 RX12 yX12_fresher wsX12_fresher) := goodIn_app (goodIn_r _ [23, 24, 25, 8] rfl (by decide +kernel)) ggX12_laneLine_X12_fresher
set_option maxRecDepth 20000 in
theorem ggX12_laneLine_X12_reads : GoodIn wsX12_laneLine wsX12_reads := goodIn_r _ [121, 27, 122, 123, 124, 125, 126, 127, 128, 129, 130, 131, 132, 133, 134, 135, 136, 137, 138, 139, 140, 141, 142, 143, 144, 145, 146, 147, 148, 149, 150, 151, 152, 153, 154, 155, 156, 157, 158, 159, 160, 161, 162, 163, 164, 165, 166, 167, 168, 169, 170, 171, 172, 173, 174, 175, 176, 177, 178, 179, 180, 181, 182, 183, 184, 185, 186, 187] rfl (by decide +kernel)
set_option maxRecDepth 20000 in
theorem gX12_laneLine_X12_reads : GoodIn wsX12_laneLine (wsV RX12 235 RX12 yX12_reads wsX12_reads) := goodIn_app (goodIn_r _ [118, 119, 120, 8] rfl (by decide +kernel)) ggX12_laneLine_X12_reads
theorem dX12_laneLine_0 : decode cX12_laneLine 0 = .ok (.aload_n 0, 1) := by decide +kernel
theorem dX12_laneLine_1 : decode cX12_laneLine 1 = .ok (.invokevirtual 242, 3) := by decide +kernel
theorem dX12_laneLine_4 : decode cX12_laneLine 4 = .ok (.istore_n 2, 1) := by decide +kernel
theorem dX12_laneLine_5 : decode cX12_laneLine 5 = .ok (.aload_n 0, 1) := by decide +kernel
theorem dX12_laneLine_6 : decode cX12_laneLine 6 = .ok (.invokevirtual 219, 3) := by decide +kernel
theorem dX12_laneLine_9 : decode cX12_laneLine 9 = .ok (.istore_n 3, 1) := by decide +kernel
theorem dX12_laneLine_10 : decode cX12_laneLine 10 = .ok (.bipush 12, 2) := by decide +kernel
theorem dX12_laneLine_12 : decode cX12_laneLine 12 = .ok (.istore 4, 2) := by decide +kernel
theorem dX12_laneLine_14 : decode cX12_laneLine 14 = .ok (.iload 4, 2) := by decide +kernel
theorem dX12_laneLine_16 : decode cX12_laneLine 16 = .ok (.iload_n 1, 1) := by decide +kernel
theorem dX12_laneLine_17 : decode cX12_laneLine 17 = .ok (.if_icmp .ge 65, 3) := by decide +kernel
theorem dX12_laneLine_20 : decode cX12_laneLine 20 = .ok (.aload_n 0, 1) := by decide +kernel
theorem dX12_laneLine_21 : decode cX12_laneLine 21 = .ok (.getfield 199, 3) := by decide +kernel
theorem dX12_laneLine_24 : decode cX12_laneLine 24 = .ok (.ifCond .ne 58, 3) := by decide +kernel
theorem dX12_laneLine_27 : decode cX12_laneLine 27 = .ok (.aload_n 0, 1) := by decide +kernel
theorem dX12_laneLine_28 : decode cX12_laneLine 28 = .ok (.getfield 19, 3) := by decide +kernel
theorem dX12_laneLine_31 : decode cX12_laneLine 31 = .ok (.iload 4, 2) := by decide +kernel
theorem dX12_laneLine_33 : decode cX12_laneLine 33 = .ok (.iaload, 1) := by decide +kernel
theorem dX12_laneLine_34 : decode cX12_laneLine 34 = .ok (.iload_n 2, 1) := by decide +kernel
theorem dX12_laneLine_35 : decode cX12_laneLine 35 = .ok (.if_icmp .ne 14, 3) := by decide +kernel
theorem dX12_laneLine_38 : decode cX12_laneLine 38 = .ok (.aload_n 0, 1) := by decide +kernel
theorem dX12_laneLine_39 : decode cX12_laneLine 39 = .ok (.getfield 22, 3) := by decide +kernel
theorem dX12_laneLine_42 : decode cX12_laneLine 42 = .ok (.iload 4, 2) := by decide +kernel
theorem dX12_laneLine_44 : decode cX12_laneLine 44 = .ok (.iaload, 1) := by decide +kernel
theorem dX12_laneLine_45 : decode cX12_laneLine 45 = .ok (.iload_n 3, 1) := by decide +kernel
theorem dX12_laneLine_46 : decode cX12_laneLine 46 = .ok (.if_icmp .eq 25, 3) := by decide +kernel
theorem dX12_laneLine_49 : decode cX12_laneLine 49 = .ok (.aload_n 0, 1) := by decide +kernel
theorem dX12_laneLine_50 : decode cX12_laneLine 50 = .ok (.getfield 19, 3) := by decide +kernel
theorem dX12_laneLine_53 : decode cX12_laneLine 53 = .ok (.iload 4, 2) := by decide +kernel
theorem dX12_laneLine_55 : decode cX12_laneLine 55 = .ok (.iaload, 1) := by decide +kernel
theorem dX12_laneLine_56 : decode cX12_laneLine 56 = .ok (.iload_n 3, 1) := by decide +kernel
theorem dX12_laneLine_57 : decode cX12_laneLine 57 = .ok (.if_icmp .ne 19, 3) := by decide +kernel
theorem dX12_laneLine_60 : decode cX12_laneLine 60 = .ok (.aload_n 0, 1) := by decide +kernel
theorem dX12_laneLine_61 : decode cX12_laneLine 61 = .ok (.getfield 22, 3) := by decide +kernel
theorem dX12_laneLine_64 : decode cX12_laneLine 64 = .ok (.iload 4, 2) := by decide +kernel
theorem dX12_laneLine_66 : decode cX12_laneLine 66 = .ok (.iaload, 1) := by decide +kernel
theorem dX12_laneLine_67 : decode cX12_laneLine 67 = .ok (.iload_n 2, 1) := by decide +kernel
theorem dX12_laneLine_68 : decode cX12_laneLine 68 = .ok (.if_icmp .ne 8, 3) := by decide +kernel
theorem dX12_laneLine_71 : decode cX12_laneLine 71 = .ok (.aload_n 0, 1) := by decide +kernel
theorem dX12_laneLine_72 : decode cX12_laneLine 72 = .ok (.iconst 3, 1) := by decide +kernel
theorem dX12_laneLine_73 : decode cX12_laneLine 73 = .ok (.invokevirtual 208, 3) := by decide +kernel
theorem dX12_laneLine_76 : decode cX12_laneLine 76 = .ok (.iinc 4 1, 3) := by decide +kernel
theorem dX12_laneLine_79 : decode cX12_laneLine 79 = .ok (.goto (-65), 3) := by decide +kernel
theorem dX12_laneLine_82 : decode cX12_laneLine 82 = .ok (.aload_n 0, 1) := by decide +kernel
theorem dX12_laneLine_83 : decode cX12_laneLine 83 = .ok (.getfield 199, 3) := by decide +kernel
theorem dX12_laneLine_86 : decode cX12_laneLine 86 = .ok (.ifCond .ne 13, 3) := by decide +kernel
theorem dX12_laneLine_89 : decode cX12_laneLine 89 = .ok (.iload_n 2, 1) := by decide +kernel
theorem dX12_laneLine_90 : decode cX12_laneLine 90 = .ok (.iload_n 3, 1) := by decide +kernel
theorem dX12_laneLine_91 : decode cX12_laneLine 91 = .ok (.if_icmp .ne 8, 3) := by decide +kernel
theorem dX12_laneLine_94 : decode cX12_laneLine 94 = .ok (.aload_n 0, 1) := by decide +kernel
theorem dX12_laneLine_95 : decode cX12_laneLine 95 = .ok (.iconst 5, 1) := by decide +kernel
theorem dX12_laneLine_96 : decode cX12_laneLine 96 = .ok (.invokevirtual 208, 3) := by decide +kernel
theorem dX12_laneLine_99 : decode cX12_laneLine 99 = .ok (.aload_n 0, 1) := by decide +kernel
theorem dX12_laneLine_100 : decode cX12_laneLine 100 = .ok (.invokevirtual 222, 3) := by decide +kernel
theorem dX12_laneLine_103 : decode cX12_laneLine 103 = .ok (.aload_n 0, 1) := by decide +kernel
theorem dX12_laneLine_104 : decode cX12_laneLine 104 = .ok (.getfield 19, 3) := by decide +kernel
theorem dX12_laneLine_107 : decode cX12_laneLine 107 = .ok (.iload_n 1, 1) := by decide +kernel
theorem dX12_laneLine_108 : decode cX12_laneLine 108 = .ok (.iload_n 2, 1) := by decide +kernel
theorem dX12_laneLine_109 : decode cX12_laneLine 109 = .ok (.iastore, 1) := by decide +kernel
theorem dX12_laneLine_110 : decode cX12_laneLine 110 = .ok (.aload_n 0, 1) := by decide +kernel
theorem dX12_laneLine_111 : decode cX12_laneLine 111 = .ok (.getfield 22, 3) := by decide +kernel
theorem dX12_laneLine_114 : decode cX12_laneLine 114 = .ok (.iload_n 1, 1) := by decide +kernel
theorem dX12_laneLine_115 : decode cX12_laneLine 115 = .ok (.iload_n 3, 1) := by decide +kernel
theorem dX12_laneLine_116 : decode cX12_laneLine 116 = .ok (.iastore, 1) := by decide +kernel
theorem dX12_laneLine_117 : decode cX12_laneLine 117 = .ok (.aload_n 0, 1) := by decide +kernel
theorem dX12_laneLine_118 : decode cX12_laneLine 118 = .ok (.getfield 25, 3) := by decide +kernel
theorem dX12_laneLine_121 : decode cX12_laneLine 121 = .ok (.iload_n 1, 1) := by decide +kernel
theorem dX12_laneLine_122 : decode cX12_laneLine 122 = .ok (.aload_n 0, 1) := by decide +kernel
theorem dX12_laneLine_123 : decode cX12_laneLine 123 = .ok (.iconst 1, 1) := by decide +kernel
theorem dX12_laneLine_124 : decode cX12_laneLine 124 = .ok (.bipush 9, 2) := by decide +kernel
theorem dX12_laneLine_126 : decode cX12_laneLine 126 = .ok (.invokevirtual 245, 3) := by decide +kernel
theorem dX12_laneLine_129 : decode cX12_laneLine 129 = .ok (.iastore, 1) := by decide +kernel
theorem dX12_laneLine_130 : decode cX12_laneLine 130 = .ok (.aload_n 0, 1) := by decide +kernel
theorem dX12_laneLine_131 : decode cX12_laneLine 131 = .ok (.iconst 1, 1) := by decide +kernel
theorem dX12_laneLine_132 : decode cX12_laneLine 132 = .ok (.aload_n 0, 1) := by decide +kernel
theorem dX12_laneLine_133 : decode cX12_laneLine 133 = .ok (.iconst 1, 1) := by decide +kernel
theorem dX12_laneLine_134 : decode cX12_laneLine 134 = .ok (.invokevirtual 215, 3) := by decide +kernel
theorem dX12_laneLine_137 : decode cX12_laneLine 137 = .ok (.iconst 1, 1) := by decide +kernel
theorem dX12_laneLine_138 : decode cX12_laneLine 138 = .ok (.iadd, 1) := by decide +kernel
theorem dX12_laneLine_139 : decode cX12_laneLine 139 = .ok (.invokevirtual 235, 3) := by decide +kernel
theorem dX12_laneLine_142 : decode cX12_laneLine 142 = .ok (.return_, 1) := by decide +kernel
set_option maxRecDepth 20000 in
theorem ggX12_lawLine_X12_wrong : GoodIn wsX12_lawLine wsX12_wrong := goodIn_r _ [11, 3, 12, 13, 150, 151, 152, 153, 154, 155, 156, 157, 158, 159, 160, 161, 162, 163, 164, 165, 166, 167, 168, 169, 170, 171, 172, 173, 174, 175, 176, 177, 178, 179, 180, 181, 182, 183, 184, 185, 186, 187, 188, 189, 190, 191, 192, 193, 194, 195, 196, 197, 198, 199, 200, 201, 202, 203, 204, 205, 206, 207, 208, 209, 210, 211, 212, 213, 214, 215] rfl (by decide +kernel)
set_option maxRecDepth 20000 in
theorem gX12_lawLine_X12_wrong : GoodIn wsX12_lawLine (wsV RX12 208 RX12 yX12_wrong wsX12_wrong) := goodIn_app (goodIn_r _ [7, 8, 9, 10] rfl (by decide +kernel)) ggX12_lawLine_X12_wrong
set_option maxRecDepth 20000 in
theorem ggX12_lawLine_X12_token : GoodIn wsX12_lawLine wsX12_token := goodIn_r _ [17, 18, 12, 1, 2, 19, 20, 21, 22, 10, 23, 24, 25, 26, 27, 28, 29, 30, 31, 32, 33, 34, 35, 36, 37, 38, 39, 40, 41, 42, 43, 44, 45, 46, 47, 48, 49, 50, 51, 52, 53, 54, 55, 56, 57, 58, 59, 60, 61, 62, 63, 64, 65, 66, 67, 68, 69, 70, 71, 72, 73, 74, 75, 76, 77, 78, 79, 80, 81, 82, 83, 84, 85, 86, 87, 88, 89, 90, 91, 92, 150, 151, 152, 153, 154, 155, 156, 157, 158, 159, 160, 161, 162, 163, 164, 165, 166, 167, 168, 169, 170, 171, 172, 173, 174, 175, 176, 177, 178, 179, 180, 181, 182, 183, 184, 185, 186, 187, 188, 189, 190, 191, 192, 193, 194, 195, 196, 197, 198, 199, 200, 201, 202, 203, 204, 205, 206, 207, 208, 209, 210, 211, 212, 213, 214, 215] rfl (by decide +kernel)
set_option maxRecDepth 20000 in
theorem gX12_lawLine_X12_token : GoodIn wsX12_lawLine (wsV RX12 205 RX12 yX12_token wsX12_token) := goodIn_app (goodIn_r _ [14, 15, 16, 10] rfl (by decide +kernel)) ggX12_lawLine_X12_token
set_option maxRecDepth 20000 in
theorem ggX12_lawLine_X12_fresher : GoodIn wsX12_lawLine wsX12_fresher := goodIn_r _ [96, 97, 150, 151, 152, 153, 154, 155, 156, 157, 158, 159, 160, 161, 162, 163, 164, 165, 166, 167, 168, 169, 170, 171, 172, 173, 174, 175, 176, 177, 178, 179, 180, 181, 182, 183, 184, 185, 186, 187, 188, 189, 190, 191, 192, 193, 194, 195, 196, 197, 198, 199, 200, 201, 202, 203, 204, 205, 206, 207, 208, 209, 210, 211, 212, 213, 214, 215] rfl (by decide +kernel)
set_option maxRecDepth 20000 in
theorem gX12_lawLine_X12_fresher : GoodIn wsX12_lawLine (wsV RX12 215 RX12 yX12_fresher wsX12_fresher) := goodIn_app (goodIn_r _ [93, 94, 95, 10] rfl (by decide +kernel)) ggX12_lawLine_X12_fresher
set_option maxRecDepth 20000 in
theorem ggX12_lawLine_X12_expression : GoodIn wsX12_lawLine wsX12_expression := goodIn_r _ [101, 102, 103, 104, 10, 105, 106, 107, 108, 3, 1, 2, 109, 110, 111, 112, 113, 7, 8, 9, 11, 12, 13, 114, 115, 116, 117, 14, 15, 16, 17, 18, 19, 20, 21, 22, 23, 24, 25, 26, 27, 28, 29, 30, 31, 32, 33, 34, 35, 36, 37, 38, 39, 40, 41, 42, 43, 44, 45, 46, 47, 48, 49, 50, 51, 52, 53, 54, 55, 56, 57, 58, 59, 60, 61, 62, 63, 64, 65, 66, 67, 68, 69, 70, 71, 72, 73, 74, 75, 76, 77, 78, 79, 80, 81, 82, 83, 84, 85, 86, 87, 88, 89, 90, 91, 92, 118, 119, 120, 121, 122, 123, 93, 94, 95, 96, 97, 124, 125, 126, 127, 128, 129, 130, 131, 132, 133, 134, 135, 136, 137, 138, 139, 140, 141, 98, 99, 100, 142, 143, 144, 145, 146, 147, 148, 149, 150, 151, 152, 153, 154, 155, 156, 157, 158, 159, 160, 161, 162, 163, 164, 165, 166, 167, 168, 169, 170, 171, 172, 173, 174, 175, 176, 177, 178, 179, 180, 181, 182, 183, 184, 185, 186, 187, 188, 189, 190, 191, 192, 193, 194, 195, 196, 197, 198, 199, 200, 201, 202, 203, 204, 205, 206, 207, 208, 209, 210, 211, 212, 213, 214, 215] rfl (by decide +kernel)
set_option maxRecDepth 20000 in
theorem gX12_lawLine_X12_expression : GoodIn wsX12_lawLine (wsV RX12 258 RX12 yX12_expression wsX12_expression) := goodIn_app (goodIn_r _ [98, 99, 100, 10] rfl (by decide +kernel)) ggX12_lawLine_X12_expression
theorem dX12_lawLine_0 : decode cX12_lawLine 0 = .ok (.aload_n 0, 1) := by decide +kernel
theorem dX12_lawLine_1 : decode cX12_lawLine 1 = .ok (.getfield 164, 3) := by decide +kernel
theorem dX12_lawLine_4 : decode cX12_lawLine 4 = .ok (.ifCond .ne 21, 3) := by decide +kernel
theorem dX12_lawLine_7 : decode cX12_lawLine 7 = .ok (.aload_n 0, 1) := by decide +kernel
theorem dX12_lawLine_8 : decode cX12_lawLine 8 = .ok (.getfield 174, 3) := by decide +kernel
theorem dX12_lawLine_11 : decode cX12_lawLine 11 = .ok (.bipush 9, 2) := by decide +kernel
theorem dX12_lawLine_13 : decode cX12_lawLine 13 = .ok (.if_icmp .lt 12, 3) := by decide +kernel
theorem dX12_lawLine_16 : decode cX12_lawLine 16 = .ok (.aload_n 0, 1) := by decide +kernel
theorem dX12_lawLine_17 : decode cX12_lawLine 17 = .ok (.getfield 174, 3) := by decide +kernel
theorem dX12_lawLine_20 : decode cX12_lawLine 20 = .ok (.bipush 11, 2) := by decide +kernel
theorem dX12_lawLine_22 : decode cX12_lawLine 22 = .ok (.if_icmp .le 8, 3) := by decide +kernel
theorem dX12_lawLine_25 : decode cX12_lawLine 25 = .ok (.aload_n 0, 1) := by decide +kernel
theorem dX12_lawLine_26 : decode cX12_lawLine 26 = .ok (.iconst 1, 1) := by decide +kernel
theorem dX12_lawLine_27 : decode cX12_lawLine 27 = .ok (.invokevirtual 208, 3) := by decide +kernel
theorem dX12_lawLine_30 : decode cX12_lawLine 30 = .ok (.aload_n 0, 1) := by decide +kernel
theorem dX12_lawLine_31 : decode cX12_lawLine 31 = .ok (.getfield 174, 3) := by decide +kernel
theorem dX12_lawLine_34 : decode cX12_lawLine 34 = .ok (.bipush 9, 2) := by decide +kernel
theorem dX12_lawLine_36 : decode cX12_lawLine 36 = .ok (.isub, 1) := by decide +kernel
theorem dX12_lawLine_37 : decode cX12_lawLine 37 = .ok (.istore_n 1, 1) := by decide +kernel
theorem dX12_lawLine_38 : decode cX12_lawLine 38 = .ok (.aload_n 0, 1) := by decide +kernel
theorem dX12_lawLine_39 : decode cX12_lawLine 39 = .ok (.getfield 199, 3) := by decide +kernel
theorem dX12_lawLine_42 : decode cX12_lawLine 42 = .ok (.ifCond .ne 23, 3) := by decide +kernel
theorem dX12_lawLine_45 : decode cX12_lawLine 45 = .ok (.aload_n 0, 1) := by decide +kernel
theorem dX12_lawLine_46 : decode cX12_lawLine 46 = .ok (.getfield 228, 3) := by decide +kernel
theorem dX12_lawLine_49 : decode cX12_lawLine 49 = .ok (.bipush 16, 2) := by decide +kernel
theorem dX12_lawLine_51 : decode cX12_lawLine 51 = .ok (.iload_n 1, 1) := by decide +kernel
theorem dX12_lawLine_52 : decode cX12_lawLine 52 = .ok (.iadd, 1) := by decide +kernel
theorem dX12_lawLine_53 : decode cX12_lawLine 53 = .ok (.ishr, 1) := by decide +kernel
theorem dX12_lawLine_54 : decode cX12_lawLine 54 = .ok (.iconst 1, 1) := by decide +kernel
theorem dX12_lawLine_55 : decode cX12_lawLine 55 = .ok (.iand, 1) := by decide +kernel
theorem dX12_lawLine_56 : decode cX12_lawLine 56 = .ok (.iconst 1, 1) := by decide +kernel
theorem dX12_lawLine_57 : decode cX12_lawLine 57 = .ok (.if_icmp .ne 8, 3) := by decide +kernel
theorem dX12_lawLine_60 : decode cX12_lawLine 60 = .ok (.aload_n 0, 1) := by decide +kernel
theorem dX12_lawLine_61 : decode cX12_lawLine 61 = .ok (.iconst 3, 1) := by decide +kernel
theorem dX12_lawLine_62 : decode cX12_lawLine 62 = .ok (.invokevirtual 208, 3) := by decide +kernel
theorem dX12_lawLine_65 : decode cX12_lawLine 65 = .ok (.aload_n 0, 1) := by decide +kernel
theorem dX12_lawLine_66 : decode cX12_lawLine 66 = .ok (.getfield 199, 3) := by decide +kernel
theorem dX12_lawLine_69 : decode cX12_lawLine 69 = .ok (.ifCond .eq 4, 3) := by decide +kernel
theorem dX12_lawLine_72 : decode cX12_lawLine 72 = .ok (.return_, 1) := by decide +kernel
theorem dX12_lawLine_73 : decode cX12_lawLine 73 = .ok (.aload_n 0, 1) := by decide +kernel
theorem dX12_lawLine_74 : decode cX12_lawLine 74 = .ok (.dup, 1) := by decide +kernel
theorem dX12_lawLine_75 : decode cX12_lawLine 75 = .ok (.getfield 228, 3) := by decide +kernel
theorem dX12_lawLine_78 : decode cX12_lawLine 78 = .ok (.iconst 1, 1) := by decide +kernel
theorem dX12_lawLine_79 : decode cX12_lawLine 79 = .ok (.bipush 16, 2) := by decide +kernel
theorem dX12_lawLine_81 : decode cX12_lawLine 81 = .ok (.iload_n 1, 1) := by decide +kernel
theorem dX12_lawLine_82 : decode cX12_lawLine 82 = .ok (.iadd, 1) := by decide +kernel
theorem dX12_lawLine_83 : decode cX12_lawLine 83 = .ok (.ishl, 1) := by decide +kernel
theorem dX12_lawLine_84 : decode cX12_lawLine 84 = .ok (.ior, 1) := by decide +kernel
theorem dX12_lawLine_85 : decode cX12_lawLine 85 = .ok (.putfield 228, 3) := by decide +kernel
theorem dX12_lawLine_88 : decode cX12_lawLine 88 = .ok (.aload_n 0, 1) := by decide +kernel
theorem dX12_lawLine_89 : decode cX12_lawLine 89 = .ok (.invokevirtual 205, 3) := by decide +kernel
theorem dX12_lawLine_92 : decode cX12_lawLine 92 = .ok (.aload_n 0, 1) := by decide +kernel
theorem dX12_lawLine_93 : decode cX12_lawLine 93 = .ok (.getfield 40, 3) := by decide +kernel
theorem dX12_lawLine_96 : decode cX12_lawLine 96 = .ok (.iconst 3, 1) := by decide +kernel
theorem dX12_lawLine_97 : decode cX12_lawLine 97 = .ok (.iload_n 1, 1) := by decide +kernel
theorem dX12_lawLine_98 : decode cX12_lawLine 98 = .ok (.iadd, 1) := by decide +kernel
theorem dX12_lawLine_99 : decode cX12_lawLine 99 = .ok (.aload_n 0, 1) := by decide +kernel
theorem dX12_lawLine_100 : decode cX12_lawLine 100 = .ok (.bipush 8, 2) := by decide +kernel
theorem dX12_lawLine_102 : decode cX12_lawLine 102 = .ok (.invokevirtual 215, 3) := by decide +kernel
theorem dX12_lawLine_105 : decode cX12_lawLine 105 = .ok (.iastore, 1) := by decide +kernel
theorem dX12_lawLine_106 : decode cX12_lawLine 106 = .ok (.aload_n 0, 1) := by decide +kernel
theorem dX12_lawLine_107 : decode cX12_lawLine 107 = .ok (.invokevirtual 258, 3) := by decide +kernel
theorem dX12_lawLine_110 : decode cX12_lawLine 110 = .ok (.aload_n 0, 1) := by decide +kernel
theorem dX12_lawLine_111 : decode cX12_lawLine 111 = .ok (.getfield 43, 3) := by decide +kernel
theorem dX12_lawLine_114 : decode cX12_lawLine 114 = .ok (.iconst 3, 1) := by decide +kernel
theorem dX12_lawLine_115 : decode cX12_lawLine 115 = .ok (.iload_n 1, 1) := by decide +kernel
theorem dX12_lawLine_116 : decode cX12_lawLine 116 = .ok (.iadd, 1) := by decide +kernel
theorem dX12_lawLine_117 : decode cX12_lawLine 117 = .ok (.aload_n 0, 1) := by decide +kernel
theorem dX12_lawLine_118 : decode cX12_lawLine 118 = .ok (.bipush 8, 2) := by decide +kernel
theorem dX12_lawLine_120 : decode cX12_lawLine 120 = .ok (.invokevirtual 215, 3) := by decide +kernel
theorem dX12_lawLine_123 : decode cX12_lawLine 123 = .ok (.iastore, 1) := by decide +kernel
theorem dX12_lawLine_124 : decode cX12_lawLine 124 = .ok (.return_, 1) := by decide +kernel
set_option maxRecDepth 20000 in
theorem ggX12_puts_X12_fresher : GoodIn wsX12_puts wsX12_fresher := goodIn_r _ [8, 9, 14, 15, 16, 17, 18, 19, 20, 21, 22, 23, 24, 25, 26, 27, 28, 29, 30, 31, 32, 33, 34, 35, 36, 37, 38, 39, 40, 41, 42, 43, 44, 45, 46, 47, 48, 49, 50, 51, 52, 53, 54, 55, 56, 57, 58, 59, 60, 61, 62, 63, 64, 65, 66, 67, 68, 69, 70, 71, 72, 73, 74, 75, 76, 77, 78, 79] rfl (by decide +kernel)
set_option maxRecDepth 20000 in
theorem gX12_puts_X12_fresher : GoodIn wsX12_puts (wsV RX12 215 RX12 yX12_fresher wsX12_fresher) := goodIn_app (goodIn_r _ [4, 5, 6, 7] rfl (by decide +kernel)) ggX12_puts_X12_fresher
set_option maxRecDepth 20000 in
theorem ggX12_puts_X12_reads : GoodIn wsX12_puts wsX12_reads := goodIn_r _ [13, 9, 14, 15, 16, 17, 18, 19, 20, 21, 22, 23, 24, 25, 26, 27, 28, 29, 30, 31, 32, 33, 34, 35, 36, 37, 38, 39, 40, 41, 42, 43, 44, 45, 46, 47, 48, 49, 50, 51, 52, 53, 54, 55, 56, 57, 58, 59, 60, 61, 62, 63, 64, 65, 66, 67, 68, 69, 70, 71, 72, 73, 74, 75, 76, 77, 78, 79] rfl (by decide +kernel)
set_option maxRecDepth 20000 in
theorem gX12_puts_X12_reads : GoodIn wsX12_puts (wsV RX12 235 RX12 yX12_reads wsX12_reads) := goodIn_app (goodIn_r _ [10, 11, 12, 7] rfl (by decide +kernel)) ggX12_puts_X12_reads
theorem dX12_puts_0 : decode cX12_puts 0 = .ok (.aload_n 0, 1) := by decide +kernel
theorem dX12_puts_1 : decode cX12_puts 1 = .ok (.getfield 199, 3) := by decide +kernel
theorem dX12_puts_4 : decode cX12_puts 4 = .ok (.ifCond .eq 4, 3) := by decide +kernel
theorem dX12_puts_7 : decode cX12_puts 7 = .ok (.return_, 1) := by decide +kernel
theorem dX12_puts_8 : decode cX12_puts 8 = .ok (.aload_n 0, 1) := by decide +kernel
theorem dX12_puts_9 : decode cX12_puts 9 = .ok (.getfield 46, 3) := by decide +kernel
theorem dX12_puts_12 : decode cX12_puts 12 = .ok (.bipush 64, 2) := by decide +kernel
theorem dX12_puts_14 : decode cX12_puts 14 = .ok (.aload_n 0, 1) := by decide +kernel
theorem dX12_puts_15 : decode cX12_puts 15 = .ok (.bipush 8, 2) := by decide +kernel
theorem dX12_puts_17 : decode cX12_puts 17 = .ok (.invokevirtual 215, 3) := by decide +kernel
theorem dX12_puts_20 : decode cX12_puts 20 = .ok (.iadd, 1) := by decide +kernel
theorem dX12_puts_21 : decode cX12_puts 21 = .ok (.iload_n 1, 1) := by decide +kernel
theorem dX12_puts_22 : decode cX12_puts 22 = .ok (.iastore, 1) := by decide +kernel
theorem dX12_puts_23 : decode cX12_puts 23 = .ok (.aload_n 0, 1) := by decide +kernel
theorem dX12_puts_24 : decode cX12_puts 24 = .ok (.getfield 49, 3) := by decide +kernel
theorem dX12_puts_27 : decode cX12_puts 27 = .ok (.bipush 64, 2) := by decide +kernel
theorem dX12_puts_29 : decode cX12_puts 29 = .ok (.aload_n 0, 1) := by decide +kernel
theorem dX12_puts_30 : decode cX12_puts 30 = .ok (.bipush 8, 2) := by decide +kernel
theorem dX12_puts_32 : decode cX12_puts 32 = .ok (.invokevirtual 215, 3) := by decide +kernel
theorem dX12_puts_35 : decode cX12_puts 35 = .ok (.iadd, 1) := by decide +kernel
theorem dX12_puts_36 : decode cX12_puts 36 = .ok (.iload_n 2, 1) := by decide +kernel
theorem dX12_puts_37 : decode cX12_puts 37 = .ok (.iastore, 1) := by decide +kernel
theorem dX12_puts_38 : decode cX12_puts 38 = .ok (.aload_n 0, 1) := by decide +kernel
theorem dX12_puts_39 : decode cX12_puts 39 = .ok (.bipush 8, 2) := by decide +kernel
theorem dX12_puts_41 : decode cX12_puts 41 = .ok (.aload_n 0, 1) := by decide +kernel
theorem dX12_puts_42 : decode cX12_puts 42 = .ok (.bipush 8, 2) := by decide +kernel
theorem dX12_puts_44 : decode cX12_puts 44 = .ok (.invokevirtual 215, 3) := by decide +kernel
theorem dX12_puts_47 : decode cX12_puts 47 = .ok (.iconst 1, 1) := by decide +kernel
theorem dX12_puts_48 : decode cX12_puts 48 = .ok (.iadd, 1) := by decide +kernel
theorem dX12_puts_49 : decode cX12_puts 49 = .ok (.invokevirtual 235, 3) := by decide +kernel
theorem dX12_puts_52 : decode cX12_puts 52 = .ok (.return_, 1) := by decide +kernel
set_option maxRecDepth 20000 in
theorem ggX12_knot_X12_wrong : GoodIn wsX12_knot wsX12_wrong := goodIn_r _ [7, 1, 8, 9, 10, 11, 12, 13, 14, 15, 16, 17, 18, 19, 20, 21, 22, 23, 24, 25, 26, 27, 28, 29, 30, 31, 32, 33, 34, 35, 36, 37, 38, 39, 40, 41, 42, 43, 44, 45, 46, 47, 48, 49, 50, 51, 52, 53, 54, 55, 56, 57, 58, 59, 60, 61, 62, 63, 64, 65, 66, 67, 68, 69, 70, 71, 72, 73, 74, 75] rfl (by decide +kernel)
set_option maxRecDepth 20000 in
theorem gX12_knot_X12_wrong : GoodIn wsX12_knot (wsV RX12 208 RX12 yX12_wrong wsX12_wrong) := goodIn_app (goodIn_r _ [3, 4, 5, 6] rfl (by decide +kernel)) ggX12_knot_X12_wrong
theorem dX12_knot_0 : decode cX12_knot 0 = .ok (.aload_n 0, 1) := by decide +kernel
theorem dX12_knot_1 : decode cX12_knot 1 = .ok (.getfield 199, 3) := by decide +kernel
theorem dX12_knot_4 : decode cX12_knot 4 = .ok (.ifCond .eq 4, 3) := by decide +kernel
theorem dX12_knot_7 : decode cX12_knot 7 = .ok (.return_, 1) := by decide +kernel
theorem dX12_knot_8 : decode cX12_knot 8 = .ok (.aload_n 0, 1) := by decide +kernel
theorem dX12_knot_9 : decode cX12_knot 9 = .ok (.getfield 261, 3) := by decide +kernel
theorem dX12_knot_12 : decode cX12_knot 12 = .ok (.bipush 64, 2) := by decide +kernel
theorem dX12_knot_14 : decode cX12_knot 14 = .ok (.if_icmp .ne 11, 3) := by decide +kernel
theorem dX12_knot_17 : decode cX12_knot 17 = .ok (.aload_n 0, 1) := by decide +kernel
theorem dX12_knot_18 : decode cX12_knot 18 = .ok (.iconst 2, 1) := by decide +kernel
theorem dX12_knot_19 : decode cX12_knot 19 = .ok (.invokevirtual 208, 3) := by decide +kernel
theorem dX12_knot_22 : decode cX12_knot 22 = .ok (.goto 13, 3) := by decide +kernel
theorem dX12_knot_25 : decode cX12_knot 25 = .ok (.aload_n 0, 1) := by decide +kernel
theorem dX12_knot_26 : decode cX12_knot 26 = .ok (.dup, 1) := by decide +kernel
theorem dX12_knot_27 : decode cX12_knot 27 = .ok (.getfield 261, 3) := by decide +kernel
theorem dX12_knot_30 : decode cX12_knot 30 = .ok (.iconst 1, 1) := by decide +kernel
theorem dX12_knot_31 : decode cX12_knot 31 = .ok (.iadd, 1) := by decide +kernel
theorem dX12_knot_32 : decode cX12_knot 32 = .ok (.putfield 261, 3) := by decide +kernel
theorem dX12_knot_35 : decode cX12_knot 35 = .ok (.return_, 1) := by decide +kernel
set_option maxRecDepth 20000 in
theorem ggX12_expression_X12_conjunction : GoodIn wsX12_expression wsX12_conjunction := goodIn_r _ [121, 122, 123, 124, 4, 5, 6, 7, 8, 9, 10, 11, 12, 13, 14, 15, 16, 17, 18, 19, 20, 21, 22, 23, 24, 25, 26, 27, 28, 29, 30, 31, 32, 33, 34, 35, 36, 37, 38, 39, 40, 41, 42, 43, 44, 45, 46, 47, 48, 49, 50, 51, 52, 53, 54, 55, 56, 57, 58, 59, 60, 61, 62, 63, 64, 65, 66, 67, 68, 69, 70, 71, 72, 73, 74, 75, 76, 77, 78, 79, 80, 81, 82, 83, 84, 85, 86, 87, 88, 89, 90, 91, 92, 93, 94, 95, 96, 97, 98, 99, 100, 101, 102, 103, 104, 105, 106, 107, 108, 109, 110, 111, 112, 113, 114, 115, 116, 117, 118, 119, 120, 0, 1, 2, 3, 125, 126, 127, 128, 129, 130, 131, 132, 133, 134, 135, 136, 137, 138, 139, 140, 141, 142, 143, 144, 145, 146, 147, 148, 149, 150, 151, 152, 153, 154, 155, 156, 157, 158, 159, 160, 161, 162, 163, 164, 165, 166, 167, 168, 169, 170, 171, 172, 173, 174, 175, 176, 177, 178, 179, 180, 181, 182, 183, 184, 185, 186, 187, 188, 189, 190, 191, 192, 193, 194, 195, 196, 197, 198, 199, 200, 201, 202, 203, 204, 205, 206, 207, 208, 209, 210, 211] rfl (by decide +kernel)
set_option maxRecDepth 20000 in
theorem gX12_expression_X12_conjunction : GoodIn wsX12_expression (wsV RX12 264 RX12 yX12_conjunction wsX12_conjunction) := goodIn_app (goodIn_r _ [1, 2, 3, 4] rfl (by decide +kernel)) ggX12_expression_X12_conjunction
set_option maxRecDepth 20000 in
theorem ggX12_expression_X12_isWord : GoodIn wsX12_expression wsX12_isWord := goodIn_r _ [8, 9, 10, 11, 146, 147, 148, 149, 150, 151, 152, 153, 154, 155, 156, 157, 158, 159, 160, 161, 162, 163, 164, 165, 166, 167, 168, 169, 170, 171, 172, 173, 174, 175, 176, 177, 178, 179, 180, 181, 182, 183, 184, 185, 186, 187, 188, 189, 190, 191, 192, 193, 194, 195, 196, 197, 198, 199, 200, 201, 202, 203, 204, 205, 206, 207, 208, 209, 210, 211] rfl (by decide +kernel)
set_option maxRecDepth 20000 in
theorem gX12_expression_X12_isWord : GoodIn wsX12_expression (wsV RX12 267 RX12 yX12_isWord wsX12_isWord) := goodIn_app (goodIn_r _ [5, 6, 7, 4] rfl (by decide +kernel)) ggX12_expression_X12_isWord
set_option maxRecDepth 20000 in
theorem ggX12_expression_X12_knot : GoodIn wsX12_expression wsX12_knot := goodIn_r _ [15, 9, 16, 17, 18, 19, 4, 20, 21, 22, 146, 147, 148, 149, 150, 151, 152, 153, 154, 155, 156, 157, 158, 159, 160, 161, 162, 163, 164, 165, 166, 167, 168, 169, 170, 171, 172, 173, 174, 175, 176, 177, 178, 179, 180, 181, 182, 183, 184, 185, 186, 187, 188, 189, 190, 191, 192, 193, 194, 195, 196, 197, 198, 199, 200, 201, 202, 203, 204, 205, 206, 207, 208, 209, 210, 211] rfl (by decide +kernel)
set_option maxRecDepth 20000 in
theorem gX12_expression_X12_knot : GoodIn wsX12_expression (wsV RX12 270 RX12 yX12_knot wsX12_knot) := goodIn_app (goodIn_r _ [12, 13, 14, 4] rfl (by decide +kernel)) ggX12_expression_X12_knot
set_option maxRecDepth 20000 in
theorem ggX12_expression_X12_goOn : GoodIn wsX12_expression wsX12_goOn := goodIn_r _ [26, 9, 27, 28, 29, 4, 30, 31, 21, 10, 11, 32, 33, 34, 35, 36, 37, 38, 39, 40, 41, 42, 43, 44, 45, 46, 47, 48, 49, 50, 51, 52, 53, 54, 55, 56, 57, 58, 59, 60, 61, 62, 63, 64, 65, 66, 67, 68, 69, 70, 71, 72, 73, 74, 75, 76, 77, 78, 79, 80, 81, 82, 83, 84, 85, 86, 87, 88, 89, 90, 91, 92, 93, 94, 95, 96, 97, 98, 99, 100, 101, 102, 103, 104, 105, 146, 147, 148, 149, 150, 151, 152, 153, 154, 155, 156, 157, 158, 159, 160, 161, 162, 163, 164, 165, 166, 167, 168, 169, 170, 171, 172, 173, 174, 175, 176, 177, 178, 179, 180, 181, 182, 183, 184, 185, 186, 187, 188, 189, 190, 191, 192, 193, 194, 195, 196, 197, 198, 199, 200, 201, 202, 203, 204, 205, 206, 207, 208, 209, 210, 211] rfl (by decide +kernel)
set_option maxRecDepth 20000 in
theorem gX12_expression_X12_goOn : GoodIn wsX12_expression (wsV RX12 222 RX12 yX12_goOn wsX12_goOn) := goodIn_app (goodIn_r _ [23, 24, 25, 4] rfl (by decide +kernel)) ggX12_expression_X12_goOn
set_option maxRecDepth 20000 in
theorem ggX12_expression_X12_puts : GoodIn wsX12_expression wsX12_puts := goodIn_r _ [109, 9, 110, 111, 112, 113, 114, 4, 115, 116, 117, 118, 119, 120, 146, 147, 148, 149, 150, 151, 152, 153, 154, 155, 156, 157, 158, 159, 160, 161, 162, 163, 164, 165, 166, 167, 168, 169, 170, 171, 172, 173, 174, 175, 176, 177, 178, 179, 180, 181, 182, 183, 184, 185, 186, 187, 188, 189, 190, 191, 192, 193, 194, 195, 196, 197, 198, 199, 200, 201, 202, 203, 204, 205, 206, 207, 208, 209, 210, 211] rfl (by decide +kernel)
set_option maxRecDepth 20000 in
theorem gX12_expression_X12_puts : GoodIn wsX12_expression (wsV RX12 273 RX12 yX12_puts wsX12_puts) := goodIn_app (goodIn_r _ [106, 107, 108, 4] rfl (by decide +kernel)) ggX12_expression_X12_puts
theorem dX12_expression_0 : decode cX12_expression 0 = .ok (.aload_n 0, 1) := by decide +kernel
theorem dX12_expression_1 : decode cX12_expression 1 = .ok (.invokevirtual 264, 3) := by decide +kernel
theorem dX12_expression_4 : decode cX12_expression 4 = .ok (.aload_n 0, 1) := by decide +kernel
theorem dX12_expression_5 : decode cX12_expression 5 = .ok (.bipush 12, 2) := by decide +kernel
theorem dX12_expression_7 : decode cX12_expression 7 = .ok (.invokevirtual 267, 3) := by decide +kernel
theorem dX12_expression_10 : decode cX12_expression 10 = .ok (.ifCond .eq 26, 3) := by decide +kernel
theorem dX12_expression_13 : decode cX12_expression 13 = .ok (.aload_n 0, 1) := by decide +kernel
theorem dX12_expression_14 : decode cX12_expression 14 = .ok (.invokevirtual 270, 3) := by decide +kernel
theorem dX12_expression_17 : decode cX12_expression 17 = .ok (.aload_n 0, 1) := by decide +kernel
theorem dX12_expression_18 : decode cX12_expression 18 = .ok (.invokevirtual 222, 3) := by decide +kernel
theorem dX12_expression_21 : decode cX12_expression 21 = .ok (.aload_n 0, 1) := by decide +kernel
theorem dX12_expression_22 : decode cX12_expression 22 = .ok (.invokevirtual 264, 3) := by decide +kernel
theorem dX12_expression_25 : decode cX12_expression 25 = .ok (.aload_n 0, 1) := by decide +kernel
theorem dX12_expression_26 : decode cX12_expression 26 = .ok (.iconst 2, 1) := by decide +kernel
theorem dX12_expression_27 : decode cX12_expression 27 = .ok (.sipush 262, 3) := by decide +kernel
theorem dX12_expression_30 : decode cX12_expression 30 = .ok (.invokevirtual 273, 3) := by decide +kernel
theorem dX12_expression_33 : decode cX12_expression 33 = .ok (.goto (-29), 3) := by decide +kernel
theorem dX12_expression_36 : decode cX12_expression 36 = .ok (.return_, 1) := by decide +kernel
set_option maxRecDepth 20000 in
theorem ggX12_conjunction_X12_negation : GoodIn wsX12_conjunction wsX12_negation := goodIn_r _ [125, 9, 10, 11, 5, 6, 7, 4, 8, 12, 13, 14, 15, 16, 17, 18, 19, 20, 21, 22, 23, 24, 25, 26, 27, 28, 29, 30, 31, 32, 33, 34, 35, 36, 37, 38, 39, 40, 41, 42, 43, 44, 45, 46, 47, 48, 49, 50, 51, 52, 53, 54, 55, 56, 57, 58, 59, 60, 61, 62, 63, 64, 65, 66, 67, 68, 69, 70, 71, 72, 73, 74, 75, 76, 77, 78, 79, 80, 81, 82, 83, 84, 85, 86, 87, 88, 89, 90, 91, 92, 93, 94, 95, 96, 97, 98, 99, 100, 101, 102, 103, 104, 105, 1, 2, 3, 106, 107, 108, 109, 110, 111, 112, 113, 114, 115, 116, 117, 118, 119, 120, 126, 127, 128, 0, 121, 122, 123, 124, 129, 130, 131, 132, 133, 134, 135, 136, 137, 138, 139, 140, 141, 142, 143, 144, 145, 146, 147, 148, 149, 150, 151, 152, 153, 154, 155, 156, 157, 158, 159, 160, 161, 162, 163, 164, 165, 166, 167, 168, 169, 170, 171, 172, 173, 174, 175, 176, 177, 178, 179, 180, 181, 182, 183, 184, 185, 186, 187, 188, 189, 190, 191, 192, 193, 194, 195, 196, 197, 198, 199, 200, 201, 202, 203, 204, 205, 206, 207, 208, 209, 210, 211] rfl (by decide +kernel)
set_option maxRecDepth 20000 in
theorem gX12_conjunction_X12_negation : GoodIn wsX12_conjunction (wsV RX12 276 RX12 yX12_negation wsX12_negation) := goodIn_app (goodIn_r _ [1, 2, 3, 4] rfl (by decide +kernel)) ggX12_conjunction_X12_negation
set_option maxRecDepth 20000 in
theorem ggX12_conjunction_X12_isWord : GoodIn wsX12_conjunction wsX12_isWord := goodIn_r _ [8, 9, 10, 11, 146, 147, 148, 149, 150, 151, 152, 153, 154, 155, 156, 157, 158, 159, 160, 161, 162, 163, 164, 165, 166, 167, 168, 169, 170, 171, 172, 173, 174, 175, 176, 177, 178, 179, 180, 181, 182, 183, 184, 185, 186, 187, 188, 189, 190, 191, 192, 193, 194, 195, 196, 197, 198, 199, 200, 201, 202, 203, 204, 205, 206, 207, 208, 209, 210, 211] rfl (by decide +kernel)
set_option maxRecDepth 20000 in
theorem gX12_conjunction_X12_isWord : GoodIn wsX12_conjunction (wsV RX12 267 RX12 yX12_isWord wsX12_isWord) := goodIn_app (goodIn_r _ [5, 6, 7, 4] rfl (by decide +kernel)) ggX12_conjunction_X12_isWord
set_option maxRecDepth 20000 in
theorem ggX12_conjunction_X12_knot : GoodIn wsX12_conjunction wsX12_knot := goodIn_r _ [15, 9, 16, 17, 18, 19, 4, 20, 21, 22, 146, 147, 148, 149, 150, 151, 152, 153, 154, 155, 156, 157, 158, 159, 160, 161, 162, 163, 164, 165, 166, 167, 168, 169, 170, 171, 172, 173, 174, 175, 176, 177, 178, 179, 180, 181, 182, 183, 184, 185, 186, 187, 188, 189, 190, 191, 192, 193, 194, 195, 196, 197, 198, 199, 200, 201, 202, 203, 204, 205, 206, 207, 208, 209, 210, 211] rfl (by decide +kernel)
set_option maxRecDepth 20000 in
theorem gX12_conjunction_X12_knot : GoodIn wsX12_conjunction (wsV RX12 270 RX12 yX12_knot wsX12_knot) := goodIn_app (goodIn_r _ [12, 13, 14, 4] rfl (by decide +kernel)) ggX12_conjunction_X12_knot
set_option maxRecDepth 20000 in
theorem ggX12_conjunction_X12_goOn : GoodIn wsX12_conjunction wsX12_goOn := goodIn_r _ [26, 9, 27, 28, 29, 4, 30, 31, 21, 10, 11, 32, 33, 34, 35, 36, 37, 38, 39, 40, 41, 42, 43, 44, 45, 46, 47, 48, 49, 50, 51, 52, 53, 54, 55, 56, 57, 58, 59, 60, 61, 62, 63, 64, 65, 66, 67, 68, 69, 70, 71, 72, 73, 74, 75, 76, 77, 78, 79, 80, 81, 82, 83, 84, 85, 86, 87, 88, 89, 90, 91, 92, 93, 94, 95, 96, 97, 98, 99, 100, 101, 102, 103, 104, 105, 146, 147, 148, 149, 150, 151, 152, 153, 154, 155, 156, 157, 158, 159, 160, 161, 162, 163, 164, 165, 166, 167, 168, 169, 170, 171, 172, 173, 174, 175, 176, 177, 178, 179, 180, 181, 182, 183, 184, 185, 186, 187, 188, 189, 190, 191, 192, 193, 194, 195, 196, 197, 198, 199, 200, 201, 202, 203, 204, 205, 206, 207, 208, 209, 210, 211] rfl (by decide +kernel)
set_option maxRecDepth 20000 in
theorem gX12_conjunction_X12_goOn : GoodIn wsX12_conjunction (wsV RX12 222 RX12 yX12_goOn wsX12_goOn) := goodIn_app (goodIn_r _ [23, 24, 25, 4] rfl (by decide +kernel)) ggX12_conjunction_X12_goOn
set_option maxRecDepth 20000 in
theorem ggX12_conjunction_X12_puts : GoodIn wsX12_conjunction wsX12_puts := goodIn_r _ [109, 9, 110, 111, 112, 113, 114, 4, 115, 116, 117, 118, 119, 120, 146, 147, 148, 149, 150, 151, 152, 153, 154, 155, 156, 157, 158, 159, 160, 161, 162, 163, 164, 165, 166, 167, 168, 169, 170, 171, 172, 173, 174, 175, 176, 177, 178, 179, 180, 181, 182, 183, 184, 185, 186, 187, 188, 189, 190, 191, 192, 193, 194, 195, 196, 197, 198, 199, 200, 201, 202, 203, 204, 205, 206, 207, 208, 209, 210, 211] rfl (by decide +kernel)
set_option maxRecDepth 20000 in
theorem gX12_conjunction_X12_puts : GoodIn wsX12_conjunction (wsV RX12 273 RX12 yX12_puts wsX12_puts) := goodIn_app (goodIn_r _ [106, 107, 108, 4] rfl (by decide +kernel)) ggX12_conjunction_X12_puts
theorem dX12_conjunction_0 : decode cX12_conjunction 0 = .ok (.aload_n 0, 1) := by decide +kernel
theorem dX12_conjunction_1 : decode cX12_conjunction 1 = .ok (.invokevirtual 276, 3) := by decide +kernel
theorem dX12_conjunction_4 : decode cX12_conjunction 4 = .ok (.aload_n 0, 1) := by decide +kernel
theorem dX12_conjunction_5 : decode cX12_conjunction 5 = .ok (.bipush 13, 2) := by decide +kernel
theorem dX12_conjunction_7 : decode cX12_conjunction 7 = .ok (.invokevirtual 267, 3) := by decide +kernel
theorem dX12_conjunction_10 : decode cX12_conjunction 10 = .ok (.ifCond .eq 26, 3) := by decide +kernel
theorem dX12_conjunction_13 : decode cX12_conjunction 13 = .ok (.aload_n 0, 1) := by decide +kernel
theorem dX12_conjunction_14 : decode cX12_conjunction 14 = .ok (.invokevirtual 270, 3) := by decide +kernel
theorem dX12_conjunction_17 : decode cX12_conjunction 17 = .ok (.aload_n 0, 1) := by decide +kernel
theorem dX12_conjunction_18 : decode cX12_conjunction 18 = .ok (.invokevirtual 222, 3) := by decide +kernel
theorem dX12_conjunction_21 : decode cX12_conjunction 21 = .ok (.aload_n 0, 1) := by decide +kernel
theorem dX12_conjunction_22 : decode cX12_conjunction 22 = .ok (.invokevirtual 276, 3) := by decide +kernel
theorem dX12_conjunction_25 : decode cX12_conjunction 25 = .ok (.aload_n 0, 1) := by decide +kernel
theorem dX12_conjunction_26 : decode cX12_conjunction 26 = .ok (.iconst 2, 1) := by decide +kernel
theorem dX12_conjunction_27 : decode cX12_conjunction 27 = .ok (.sipush 261, 3) := by decide +kernel
theorem dX12_conjunction_30 : decode cX12_conjunction 30 = .ok (.invokevirtual 273, 3) := by decide +kernel
theorem dX12_conjunction_33 : decode cX12_conjunction 33 = .ok (.goto (-29), 3) := by decide +kernel
theorem dX12_conjunction_36 : decode cX12_conjunction 36 = .ok (.return_, 1) := by decide +kernel
set_option maxRecDepth 20000 in
theorem ggX12_negation_X12_isWord : GoodIn wsX12_negation wsX12_isWord := goodIn_r _ [8, 1, 2, 3, 146, 147, 148, 149, 150, 151, 152, 153, 154, 155, 156, 157, 158, 159, 160, 161, 162, 163, 164, 165, 166, 167, 168, 169, 170, 171, 172, 173, 174, 175, 176, 177, 178, 179, 180, 181, 182, 183, 184, 185, 186, 187, 188, 189, 190, 191, 192, 193, 194, 195, 196, 197, 198, 199, 200, 201, 202, 203, 204, 205, 206, 207, 208, 209, 210, 211] rfl (by decide +kernel)
set_option maxRecDepth 20000 in
theorem gX12_negation_X12_isWord : GoodIn wsX12_negation (wsV RX12 267 RX12 yX12_isWord wsX12_isWord) := goodIn_app (goodIn_r _ [4, 5, 6, 7] rfl (by decide +kernel)) ggX12_negation_X12_isWord
set_option maxRecDepth 20000 in
theorem ggX12_negation_X12_knot : GoodIn wsX12_negation wsX12_knot := goodIn_r _ [12, 1, 13, 14, 15, 16, 7, 17, 18, 19, 146, 147, 148, 149, 150, 151, 152, 153, 154, 155, 156, 157, 158, 159, 160, 161, 162, 163, 164, 165, 166, 167, 168, 169, 170, 171, 172, 173, 174, 175, 176, 177, 178, 179, 180, 181, 182, 183, 184, 185, 186, 187, 188, 189, 190, 191, 192, 193, 194, 195, 196, 197, 198, 199, 200, 201, 202, 203, 204, 205, 206, 207, 208, 209, 210, 211] rfl (by decide +kernel)
set_option maxRecDepth 20000 in
theorem gX12_negation_X12_knot : GoodIn wsX12_negation (wsV RX12 270 RX12 yX12_knot wsX12_knot) := goodIn_app (goodIn_r _ [9, 10, 11, 7] rfl (by decide +kernel)) ggX12_negation_X12_knot
set_option maxRecDepth 20000 in
theorem ggX12_negation_X12_goOn : GoodIn wsX12_negation wsX12_goOn := goodIn_r _ [23, 1, 24, 25, 26, 7, 27, 28, 18, 2, 3, 29, 30, 31, 32, 33, 34, 35, 36, 37, 38, 39, 40, 41, 42, 43, 44, 45, 46, 47, 48, 49, 50, 51, 52, 53, 54, 55, 56, 57, 58, 59, 60, 61, 62, 63, 64, 65, 66, 67, 68, 69, 70, 71, 72, 73, 74, 75, 76, 77, 78, 79, 80, 81, 82, 83, 84, 85, 86, 87, 88, 89, 90, 91, 92, 93, 94, 95, 96, 97, 98, 99, 100, 101, 102, 146, 147, 148, 149, 150, 151, 152, 153, 154, 155, 156, 157, 158, 159, 160, 161, 162, 163, 164, 165, 166, 167, 168, 169, 170, 171, 172, 173, 174, 175, 176, 177, 178, 179, 180, 181, 182, 183, 184, 185, 186, 187, 188, 189, 190, 191, 192, 193, 194, 195, 196, 197, 198, 199, 200, 201, 202, 203, 204, 205, 206, 207, 208, 209, 210, 211] rfl (by decide +kernel)
set_option maxRecDepth 20000 in
theorem gX12_negation_X12_goOn : GoodIn wsX12_negation (wsV RX12 222 RX12 yX12_goOn wsX12_goOn) := goodIn_app (goodIn_r _ [20, 21, 22, 7] rfl (by decide +kernel)) ggX12_negation_X12_goOn
set_option maxRecDepth 20000 in
theorem ggX12_negation_X12_negation : GoodIn wsX12_negation wsX12_negation := goodIn_r _ [0, 1, 2, 3, 4, 5, 6, 7, 8, 9, 10, 11, 12, 13, 14, 15, 16, 17, 18, 19, 20, 21, 22, 23, 24, 25, 26, 27, 28, 29, 30, 31, 32, 33, 34, 35, 36, 37, 38, 39, 40, 41, 42, 43, 44, 45, 46, 47, 48, 49, 50, 51, 52, 53, 54, 55, 56, 57, 58, 59, 60, 61, 62, 63, 64, 65, 66, 67, 68, 69, 70, 71, 72, 73, 74, 75, 76, 77, 78, 79, 80, 81, 82, 83, 84, 85, 86, 87, 88, 89, 90, 91, 92, 93, 94, 95, 96, 97, 98, 99, 100, 101, 102, 103, 104, 105, 106, 107, 108, 109, 110, 111, 112, 113, 114, 115, 116, 117, 118, 119, 120, 121, 122, 123, 124, 125, 126, 127, 128, 129, 130, 131, 132, 133, 134, 135, 136, 137, 138, 139, 140, 141, 142, 143, 144, 145, 146, 147, 148, 149, 150, 151, 152, 153, 154, 155, 156, 157, 158, 159, 160, 161, 162, 163, 164, 165, 166, 167, 168, 169, 170, 171, 172, 173, 174, 175, 176, 177, 178, 179, 180, 181, 182, 183, 184, 185, 186, 187, 188, 189, 190, 191, 192, 193, 194, 195, 196, 197, 198, 199, 200, 201, 202, 203, 204, 205, 206, 207, 208, 209, 210, 211] rfl (by decide +kernel)
set_option maxRecDepth 20000 in
theorem gX12_negation_X12_negation : GoodIn wsX12_negation (wsV RX12 276 RX12 yX12_negation wsX12_negation) := goodIn_app (goodIn_r _ [103, 104, 105, 7] rfl (by decide +kernel)) ggX12_negation_X12_negation
set_option maxRecDepth 20000 in
theorem ggX12_negation_X12_puts : GoodIn wsX12_negation wsX12_puts := goodIn_r _ [109, 1, 110, 111, 112, 113, 114, 7, 115, 116, 117, 118, 119, 120, 146, 147, 148, 149, 150, 151, 152, 153, 154, 155, 156, 157, 158, 159, 160, 161, 162, 163, 164, 165, 166, 167, 168, 169, 170, 171, 172, 173, 174, 175, 176, 177, 178, 179, 180, 181, 182, 183, 184, 185, 186, 187, 188, 189, 190, 191, 192, 193, 194, 195, 196, 197, 198, 199, 200, 201, 202, 203, 204, 205, 206, 207, 208, 209, 210, 211] rfl (by decide +kernel)
set_option maxRecDepth 20000 in
theorem gX12_negation_X12_puts : GoodIn wsX12_negation (wsV RX12 273 RX12 yX12_puts wsX12_puts) := goodIn_app (goodIn_r _ [106, 107, 108, 7] rfl (by decide +kernel)) ggX12_negation_X12_puts
set_option maxRecDepth 20000 in
theorem ggX12_negation_X12_sum : GoodIn wsX12_negation wsX12_sum := goodIn_r _ [142, 3, 143, 144, 145, 7, 131, 132, 133, 134, 1, 2, 9, 10, 11, 12, 13, 14, 15, 16, 17, 18, 19, 20, 21, 22, 23, 24, 25, 26, 27, 28, 29, 30, 31, 32, 33, 34, 35, 36, 37, 38, 39, 40, 41, 42, 43, 44, 45, 46, 47, 48, 49, 50, 51, 52, 53, 54, 55, 56, 57, 58, 59, 60, 61, 62, 63, 64, 65, 66, 67, 68, 69, 70, 71, 72, 73, 74, 75, 76, 77, 78, 79, 80, 81, 82, 83, 84, 85, 86, 87, 88, 89, 90, 91, 92, 93, 94, 95, 96, 97, 98, 99, 100, 101, 102, 106, 107, 108, 109, 110, 111, 112, 113, 114, 115, 116, 117, 118, 119, 120, 124, 103, 104, 105, 4, 5, 6, 8, 125, 126, 127, 128, 0, 121, 122, 123, 129, 130, 135, 136, 137, 138, 139, 140, 141, 146, 147, 148, 149, 150, 151, 152, 153, 154, 155, 156, 157, 158, 159, 160, 161, 162, 163, 164, 165, 166, 167, 168, 169, 170, 171, 172, 173, 174, 175, 176, 177, 178, 179, 180, 181, 182, 183, 184, 185, 186, 187, 188, 189, 190, 191, 192, 193, 194, 195, 196, 197, 198, 199, 200, 201, 202, 203, 204, 205, 206, 207, 208, 209, 210, 211] rfl (by decide +kernel)
set_option maxRecDepth 20000 in
theorem gX12_negation_X12_sum : GoodIn wsX12_negation (wsV RX12 279 RX12 yX12_sum wsX12_sum) := goodIn_app (goodIn_r _ [121, 122, 123, 7] rfl (by decide +kernel)) ggX12_negation_X12_sum
theorem dX12_negation_0 : decode cX12_negation 0 = .ok (.aload_n 0, 1) := by decide +kernel
theorem dX12_negation_1 : decode cX12_negation 1 = .ok (.bipush 14, 2) := by decide +kernel
theorem dX12_negation_3 : decode cX12_negation 3 = .ok (.invokevirtual 267, 3) := by decide +kernel
theorem dX12_negation_6 : decode cX12_negation 6 = .ok (.ifCond .eq 24, 3) := by decide +kernel
theorem dX12_negation_9 : decode cX12_negation 9 = .ok (.aload_n 0, 1) := by decide +kernel
theorem dX12_negation_10 : decode cX12_negation 10 = .ok (.invokevirtual 270, 3) := by decide +kernel
theorem dX12_negation_13 : decode cX12_negation 13 = .ok (.aload_n 0, 1) := by decide +kernel
theorem dX12_negation_14 : decode cX12_negation 14 = .ok (.invokevirtual 222, 3) := by decide +kernel
