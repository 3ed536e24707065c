set_option maxRecDepth 20000 in
theorem gX7_faultPlace_X9_placeOf : GoodIn wsX7_faultPlace (wsV RX7 53 RX9 yX9_placeOf wsX9_placeOf) := goodIn_app (goodIn_r _ [4, 5, 6, 7] rfl (by decide +kernel)) ggX7_faultPlace_X9_placeOf
theorem dX7_faultPlace_0 : decode cX7_faultPlace 0 = .ok (.aload_n 0, 1) := by decide +kernel
theorem dX7_faultPlace_1 : decode cX7_faultPlace 1 = .ok (.getfield 35, 3) := by decide +kernel
theorem dX7_faultPlace_4 : decode cX7_faultPlace 4 = .ok (.ifCond .ne 7, 3) := by decide +kernel
theorem dX7_faultPlace_7 : decode cX7_faultPlace 7 = .ok (.iconst (-1), 1) := by decide +kernel
theorem dX7_faultPlace_8 : decode cX7_faultPlace 8 = .ok (.goto 14, 3) := by decide +kernel
theorem dX7_faultPlace_11 : decode cX7_faultPlace 11 = .ok (.aload_n 0, 1) := by decide +kernel
theorem dX7_faultPlace_12 : decode cX7_faultPlace 12 = .ok (.getfield 15, 3) := by decide +kernel
theorem dX7_faultPlace_15 : decode cX7_faultPlace 15 = .ok (.aload_n 0, 1) := by decide +kernel
theorem dX7_faultPlace_16 : decode cX7_faultPlace 16 = .ok (.getfield 50, 3) := by decide +kernel
theorem dX7_faultPlace_19 : decode cX7_faultPlace 19 = .ok (.invokevirtual 53, 3) := by decide +kernel
theorem dX7_faultPlace_22 : decode cX7_faultPlace 22 = .ok (.ireturn, 1) := by decide +kernel
theorem dX7_fail_0 : decode cX7_fail 0 = .ok (.aload_n 0, 1) := by decide +kernel
theorem dX7_fail_1 : decode cX7_fail 1 = .ok (.getfield 35, 3) := by decide +kernel
theorem dX7_fail_4 : decode cX7_fail 4 = .ok (.ifCond .ne 16, 3) := by decide +kernel
theorem dX7_fail_7 : decode cX7_fail 7 = .ok (.aload_n 0, 1) := by decide +kernel
theorem dX7_fail_8 : decode cX7_fail 8 = .ok (.iload_n 1, 1) := by decide +kernel
theorem dX7_fail_9 : decode cX7_fail 9 = .ok (.putfield 35, 3) := by decide +kernel
theorem dX7_fail_12 : decode cX7_fail 12 = .ok (.aload_n 0, 1) := by decide +kernel
theorem dX7_fail_13 : decode cX7_fail 13 = .ok (.aload_n 0, 1) := by decide +kernel
theorem dX7_fail_14 : decode cX7_fail 14 = .ok (.getfield 28, 3) := by decide +kernel
theorem dX7_fail_17 : decode cX7_fail 17 = .ok (.putfield 50, 3) := by decide +kernel
theorem dX7_fail_20 : decode cX7_fail 20 = .ok (.return_, 1) := by decide +kernel
set_option maxRecDepth 20000 in
theorem ggX7_readLine_X9_sortOf : GoodIn wsX7_readLine wsX9_sortOf := goodIn_r _ [7, 8, 9, 175, 176, 177, 178, 179, 180, 181, 182, 183] rfl (by decide +kernel)
set_option maxRecDepth 20000 in
theorem gX7_readLine_X9_sortOf : GoodIn wsX7_readLine (wsV RX7 41 RX9 yX9_sortOf wsX9_sortOf) := goodIn_app (goodIn_r _ [3, 4, 5, 6] rfl (by decide +kernel)) ggX7_readLine_X9_sortOf
set_option maxRecDepth 20000 in
theorem ggX7_readLine_X7_readBay : GoodIn wsX7_readLine wsX7_readBay := goodIn_r _ [14, 15, 2, 1, 16, 17, 18, 19, 13, 20, 21, 22, 23, 24, 25, 3, 4, 5, 6, 7, 8, 9, 26, 27, 28, 29, 30, 31, 32, 33, 34, 35, 36, 37, 38, 39, 40, 41, 163, 164, 165, 166, 167, 168, 169, 170, 171, 172, 173, 174, 184, 185, 186, 187, 188, 189, 190, 191, 192, 193, 194, 195, 196, 197, 198, 175, 176, 177, 178, 179, 180, 181, 182, 183] rfl (by decide +kernel)
set_option maxRecDepth 20000 in
theorem gX7_readLine_X7_readBay : GoodIn wsX7_readLine (wsV RX7 56 RX7 yX7_readBay wsX7_readBay) := goodIn_app (goodIn_r _ [10, 11, 12, 13] rfl (by decide +kernel)) ggX7_readLine_X7_readBay
set_option maxRecDepth 20000 in
theorem ggX7_readLine_X7_readLane : GoodIn wsX7_readLine wsX7_readLane := goodIn_r _ [45, 15, 2, 16, 17, 18, 19, 13, 20, 21, 22, 23, 24, 25, 46, 47, 48, 49, 1, 3, 4, 5, 6, 7, 8, 9, 26, 27, 28, 29, 30, 31, 32, 33, 34, 35, 36, 37, 50, 51, 52, 53, 54, 55, 56, 57, 58, 59, 60, 61, 62, 63, 64, 65, 66, 67, 163, 164, 165, 166, 167, 168, 169, 170, 171, 172, 173, 174, 184, 185, 186, 187, 188, 189, 190, 191, 192, 193, 194, 195, 196, 197, 198, 175, 176, 177, 178, 179, 180, 181, 182, 183] rfl (by decide +kernel)
set_option maxRecDepth 20000 in
theorem gX7_readLine_X7_readLane : GoodIn wsX7_readLine (wsV RX7 59 RX7 yX7_readLane wsX7_readLane) := goodIn_app (goodIn_r _ [42, 43, 44, 13] rfl (by decide +kernel)) ggX7_readLine_X7_readLane
set_option maxRecDepth 20000 in
theorem ggX7_readLine_X7_readDeed : GoodIn wsX7_readLine wsX7_readDeed := goodIn_r _ [71, 15, 2, 16, 17, 18, 19, 13, 20, 21, 22, 23, 24, 25, 46, 47, 48, 49, 1, 3, 4, 5, 6, 7, 8, 9, 26, 27, 28, 29, 30, 31, 32, 33, 34, 35, 36, 37, 59, 60, 61, 62, 72, 73, 74, 75, 76, 77, 78, 79, 163, 164, 165, 166, 167, 168, 169, 170, 171, 172, 173, 174, 184, 185, 186, 187, 188, 189, 190, 191, 192, 193, 194, 195, 196, 197, 198, 175, 176, 177, 178, 179, 180, 181, 182, 183] rfl (by decide +kernel)
set_option maxRecDepth 20000 in
theorem gX7_readLine_X7_readDeed : GoodIn wsX7_readLine (wsV RX7 62 RX7 yX7_readDeed wsX7_readDeed) := goodIn_app (goodIn_r _ [68, 69, 70, 13] rfl (by decide +kernel)) ggX7_readLine_X7_readDeed
set_option maxRecDepth 20000 in
theorem ggX7_readLine_X7_readWind : GoodIn wsX7_readLine wsX7_readWind := goodIn_r _ [83, 15, 2, 16, 17, 18, 19, 13, 20, 21, 22, 23, 24, 25, 59, 60, 61, 62, 1, 26, 27, 28, 6, 29, 8, 30, 3, 4, 5, 7, 9, 84, 85, 86, 34, 87, 88, 89, 163, 164, 165, 166, 167, 168, 169, 170, 171, 172, 173, 174, 184, 185, 186, 187, 188, 189, 190, 191, 192, 193, 194, 195, 196, 197, 198, 175, 176, 177, 178, 179, 180, 181, 182, 183] rfl (by decide +kernel)
set_option maxRecDepth 20000 in
theorem gX7_readLine_X7_readWind : GoodIn wsX7_readLine (wsV RX7 65 RX7 yX7_readWind wsX7_readWind) := goodIn_app (goodIn_r _ [80, 81, 82, 13] rfl (by decide +kernel)) ggX7_readLine_X7_readWind
set_option maxRecDepth 20000 in
theorem ggX7_readLine_X7_readShip : GoodIn wsX7_readLine wsX7_readShip := goodIn_r _ [93, 2, 15, 94, 95, 96, 13, 97, 98, 21, 22, 23, 24, 16, 25, 46, 47, 48, 49, 1, 3, 4, 5, 6, 7, 8, 9, 26, 27, 28, 29, 30, 31, 32, 33, 34, 35, 36, 37, 163, 164, 165, 166, 167, 168, 169, 170, 171, 172, 173, 174, 184, 185, 186, 187, 188, 189, 190, 191, 192, 193, 194, 195, 196, 197, 198, 175, 176, 177, 178, 179, 180, 181, 182, 183] rfl (by decide +kernel)
set_option maxRecDepth 20000 in
theorem gX7_readLine_X7_readShip : GoodIn wsX7_readLine (wsV RX7 68 RX7 yX7_readShip wsX7_readShip) := goodIn_app (goodIn_r _ [90, 91, 92, 13] rfl (by decide +kernel)) ggX7_readLine_X7_readShip
set_option maxRecDepth 20000 in
theorem ggX7_readLine_X7_readSetting : GoodIn wsX7_readLine wsX7_readSetting := goodIn_r _ [102, 2, 15, 103, 94, 95, 96, 13, 97, 98, 21, 22, 23, 24, 16, 25, 59, 60, 61, 62, 1, 26, 27, 28, 6, 29, 8, 30, 3, 4, 5, 7, 9, 163, 164, 165, 166, 167, 168, 169, 170, 171, 172, 173, 174, 184, 185, 186, 187, 188, 189, 190, 191, 192, 193, 194, 195, 196, 197, 198, 175, 176, 177, 178, 179, 180, 181, 182, 183] rfl (by decide +kernel)
set_option maxRecDepth 20000 in
theorem gX7_readLine_X7_readSetting : GoodIn wsX7_readLine (wsV RX7 71 RX7 yX7_readSetting wsX7_readSetting) := goodIn_app (goodIn_r _ [99, 100, 101, 13] rfl (by decide +kernel)) ggX7_readLine_X7_readSetting
set_option maxRecDepth 20000 in
theorem ggX7_readLine_X7_readLaw : GoodIn wsX7_readLine wsX7_readLaw := goodIn_r _ [107, 2, 1, 15, 3, 4, 5, 6, 7, 8, 9, 21, 22, 23, 13, 24, 16, 25, 94, 95, 96, 97, 98, 108, 109, 110, 111, 112, 113, 114, 115, 116, 117, 118, 119, 120, 121, 122, 123, 124, 125, 126, 26, 27, 28, 29, 30, 127, 128, 129, 130, 131, 132, 133, 134, 135, 136, 137, 17, 18, 19, 20, 138, 139, 140, 141, 142, 143, 144, 145, 146, 147, 148, 149, 150, 151, 152, 153, 154, 155, 156, 157, 158, 159, 160, 161, 162, 163, 164, 165, 166, 167, 168, 169, 170, 171, 172, 173, 174, 184, 185, 186, 187, 188, 189, 190, 191, 192, 193, 194, 195, 196, 197, 198, 175, 176, 177, 178, 179, 180, 181, 182, 183, 199, 200, 201, 202, 203, 204] rfl (by decide +kernel)
set_option maxRecDepth 20000 in
theorem gX7_readLine_X7_readLaw : GoodIn wsX7_readLine (wsV RX7 75 RX7 yX7_readLaw wsX7_readLaw) := goodIn_app (goodIn_r _ [104, 105, 106, 13] rfl (by decide +kernel)) ggX7_readLine_X7_readLaw
set_option maxRecDepth 20000 in
theorem ggX7_readLine_X7_fail : GoodIn wsX7_readLine wsX7_fail := goodIn_r _ [24, 16, 2, 25, 163, 164, 165, 166, 167, 168, 169, 170, 171, 172, 173, 174] rfl (by decide +kernel)
set_option maxRecDepth 20000 in
theorem gX7_readLine_X7_fail : GoodIn wsX7_readLine (wsV RX7 78 RX7 yX7_fail wsX7_fail) := goodIn_app (goodIn_r _ [21, 22, 23, 13] rfl (by decide +kernel)) ggX7_readLine_X7_fail
theorem dX7_readLine_0 : decode cX7_readLine 0 = .ok (.aload_n 0, 1) := by decide +kernel
theorem dX7_readLine_1 : decode cX7_readLine 1 = .ok (.getfield 15, 3) := by decide +kernel
theorem dX7_readLine_4 : decode cX7_readLine 4 = .ok (.aload_n 0, 1) := by decide +kernel
theorem dX7_readLine_5 : decode cX7_readLine 5 = .ok (.getfield 28, 3) := by decide +kernel
theorem dX7_readLine_8 : decode cX7_readLine 8 = .ok (.invokevirtual 41, 3) := by decide +kernel
theorem dX7_readLine_11 : decode cX7_readLine 11 = .ok (.tableswitch 109 10 18 #[49, 56, 63, 70, 77, 84, 84, 84, 102], 49) := by decide +kernel
theorem dX7_readLine_60 : decode cX7_readLine 60 = .ok (.aload_n 0, 1) := by decide +kernel
theorem dX7_readLine_61 : decode cX7_readLine 61 = .ok (.invokevirtual 56, 3) := by decide +kernel
theorem dX7_readLine_64 : decode cX7_readLine 64 = .ok (.goto 61, 3) := by decide +kernel
theorem dX7_readLine_67 : decode cX7_readLine 67 = .ok (.aload_n 0, 1) := by decide +kernel
theorem dX7_readLine_68 : decode cX7_readLine 68 = .ok (.invokevirtual 59, 3) := by decide +kernel
theorem dX7_readLine_71 : decode cX7_readLine 71 = .ok (.goto 54, 3) := by decide +kernel
theorem dX7_readLine_74 : decode cX7_readLine 74 = .ok (.aload_n 0, 1) := by decide +kernel
theorem dX7_readLine_75 : decode cX7_readLine 75 = .ok (.invokevirtual 62, 3) := by decide +kernel
theorem dX7_readLine_78 : decode cX7_readLine 78 = .ok (.goto 47, 3) := by decide +kernel
theorem dX7_readLine_81 : decode cX7_readLine 81 = .ok (.aload_n 0, 1) := by decide +kernel
theorem dX7_readLine_82 : decode cX7_readLine 82 = .ok (.invokevirtual 65, 3) := by decide +kernel
theorem dX7_readLine_85 : decode cX7_readLine 85 = .ok (.goto 40, 3) := by decide +kernel
theorem dX7_readLine_88 : decode cX7_readLine 88 = .ok (.aload_n 0, 1) := by decide +kernel
theorem dX7_readLine_89 : decode cX7_readLine 89 = .ok (.invokevirtual 68, 3) := by decide +kernel
theorem dX7_readLine_92 : decode cX7_readLine 92 = .ok (.goto 33, 3) := by decide +kernel
theorem dX7_readLine_95 : decode cX7_readLine 95 = .ok (.aload_n 0, 1) := by decide +kernel
theorem dX7_readLine_96 : decode cX7_readLine 96 = .ok (.aload_n 0, 1) := by decide +kernel
theorem dX7_readLine_97 : decode cX7_readLine 97 = .ok (.getfield 15, 3) := by decide +kernel
theorem dX7_readLine_100 : decode cX7_readLine 100 = .ok (.aload_n 0, 1) := by decide +kernel
theorem dX7_readLine_101 : decode cX7_readLine 101 = .ok (.getfield 28, 3) := by decide +kernel
theorem dX7_readLine_104 : decode cX7_readLine 104 = .ok (.invokevirtual 41, 3) := by decide +kernel
theorem dX7_readLine_107 : decode cX7_readLine 107 = .ok (.invokevirtual 71, 3) := by decide +kernel
theorem dX7_readLine_110 : decode cX7_readLine 110 = .ok (.goto 15, 3) := by decide +kernel
theorem dX7_readLine_113 : decode cX7_readLine 113 = .ok (.aload_n 0, 1) := by decide +kernel
theorem dX7_readLine_114 : decode cX7_readLine 114 = .ok (.invokevirtual 75, 3) := by decide +kernel
theorem dX7_readLine_117 : decode cX7_readLine 117 = .ok (.goto 8, 3) := by decide +kernel
theorem dX7_readLine_120 : decode cX7_readLine 120 = .ok (.aload_n 0, 1) := by decide +kernel
theorem dX7_readLine_121 : decode cX7_readLine 121 = .ok (.iconst 1, 1) := by decide +kernel
theorem dX7_readLine_122 : decode cX7_readLine 122 = .ok (.invokevirtual 78, 3) := by decide +kernel
theorem dX7_readLine_125 : decode cX7_readLine 125 = .ok (.aload_n 0, 1) := by decide +kernel
theorem dX7_readLine_126 : decode cX7_readLine 126 = .ok (.getfield 15, 3) := by decide +kernel
theorem dX7_readLine_129 : decode cX7_readLine 129 = .ok (.aload_n 0, 1) := by decide +kernel
theorem dX7_readLine_130 : decode cX7_readLine 130 = .ok (.getfield 28, 3) := by decide +kernel
theorem dX7_readLine_133 : decode cX7_readLine 133 = .ok (.invokevirtual 41, 3) := by decide +kernel
theorem dX7_readLine_136 : decode cX7_readLine 136 = .ok (.bipush 40, 2) := by decide +kernel
theorem dX7_readLine_138 : decode cX7_readLine 138 = .ok (.if_icmp .eq 8, 3) := by decide +kernel
theorem dX7_readLine_141 : decode cX7_readLine 141 = .ok (.aload_n 0, 1) := by decide +kernel
theorem dX7_readLine_142 : decode cX7_readLine 142 = .ok (.iconst 1, 1) := by decide +kernel
theorem dX7_readLine_143 : decode cX7_readLine 143 = .ok (.invokevirtual 78, 3) := by decide +kernel
theorem dX7_readLine_146 : decode cX7_readLine 146 = .ok (.aload_n 0, 1) := by decide +kernel
theorem dX7_readLine_147 : decode cX7_readLine 147 = .ok (.dup, 1) := by decide +kernel
theorem dX7_readLine_148 : decode cX7_readLine 148 = .ok (.getfield 28, 3) := by decide +kernel
theorem dX7_readLine_151 : decode cX7_readLine 151 = .ok (.iconst 1, 1) := by decide +kernel
theorem dX7_readLine_152 : decode cX7_readLine 152 = .ok (.iadd, 1) := by decide +kernel
theorem dX7_readLine_153 : decode cX7_readLine 153 = .ok (.putfield 28, 3) := by decide +kernel
theorem dX7_readLine_156 : decode cX7_readLine 156 = .ok (.return_, 1) := by decide +kernel
set_option maxRecDepth 20000 in
theorem ggX7_readBay_X7_needRoom : GoodIn wsX7_readBay wsX7_needRoom := goodIn_r _ [9, 10, 11, 12, 8, 13, 4, 2, 14, 38, 39, 40, 41, 42, 43, 44, 45, 46, 47, 48, 49] rfl (by decide +kernel)
set_option maxRecDepth 20000 in
theorem gX7_readBay_X7_needRoom : GoodIn wsX7_readBay (wsV RX7 84 RX7 yX7_needRoom wsX7_needRoom) := goodIn_app (goodIn_r _ [5, 6, 7, 8] rfl (by decide +kernel)) ggX7_readBay_X7_needRoom
set_option maxRecDepth 20000 in
theorem ggX7_readBay_X9_sortOf : GoodIn wsX7_readBay wsX9_sortOf := goodIn_r _ [19, 20, 21, 65, 66, 67, 68, 69, 70, 71, 72, 73] rfl (by decide +kernel)
set_option maxRecDepth 20000 in
theorem gX7_readBay_X9_sortOf : GoodIn wsX7_readBay (wsV RX7 41 RX9 yX9_sortOf wsX9_sortOf) := goodIn_app (goodIn_r _ [15, 16, 17, 18] rfl (by decide +kernel)) ggX7_readBay_X9_sortOf
set_option maxRecDepth 20000 in
theorem ggX7_readBay_X7_fail : GoodIn wsX7_readBay wsX7_fail := goodIn_r _ [13, 4, 2, 14, 38, 39, 40, 41, 42, 43, 44, 45, 46, 47, 48, 49] rfl (by decide +kernel)
set_option maxRecDepth 20000 in
theorem gX7_readBay_X7_fail : GoodIn wsX7_readBay (wsV RX7 78 RX7 yX7_fail wsX7_fail) := goodIn_app (goodIn_r _ [10, 11, 12, 8] rfl (by decide +kernel)) ggX7_readBay_X7_fail
set_option maxRecDepth 20000 in
theorem ggX7_readBay_X9_valueOf : GoodIn wsX7_readBay wsX9_valueOf := goodIn_r _ [25, 20, 26, 65, 66, 67, 68, 69, 70, 71, 72, 73] rfl (by decide +kernel)
set_option maxRecDepth 20000 in
theorem gX7_readBay_X9_valueOf : GoodIn wsX7_readBay (wsV RX7 88 RX9 yX9_valueOf wsX9_valueOf) := goodIn_app (goodIn_r _ [22, 23, 24, 18] rfl (by decide +kernel)) ggX7_readBay_X9_valueOf
set_option maxRecDepth 20000 in
theorem ggX7_readBay_X0_find : GoodIn wsX7_readBay wsX0_find := goodIn_r _ [31, 32, 33, 50, 51, 52, 53, 54, 55, 56, 57, 58, 59, 60, 61, 62, 63, 64] rfl (by decide +kernel)
set_option maxRecDepth 20000 in
theorem gX7_readBay_X0_find : GoodIn wsX7_readBay (wsV RX7 91 RX0 yX0_find wsX0_find) := goodIn_app (goodIn_r _ [27, 28, 29, 30] rfl (by decide +kernel)) ggX7_readBay_X0_find
set_option maxRecDepth 20000 in
theorem ggX7_readBay_X0_addBay : GoodIn wsX7_readBay wsX0_addBay := goodIn_r _ [37, 32, 33, 50, 51, 52, 53, 54, 55, 56, 57, 58, 59, 60, 61, 62, 63, 64] rfl (by decide +kernel)
set_option maxRecDepth 20000 in
theorem gX7_readBay_X0_addBay : GoodIn wsX7_readBay (wsV RX7 94 RX0 yX0_addBay wsX0_addBay) := goodIn_app (goodIn_r _ [34, 35, 36, 30] rfl (by decide +kernel)) ggX7_readBay_X0_addBay
theorem dX7_readBay_0 : decode cX7_readBay 0 = .ok (.aload_n 0, 1) := by decide +kernel
theorem dX7_readBay_1 : decode cX7_readBay 1 = .ok (.aload_n 0, 1) := by decide +kernel
theorem dX7_readBay_2 : decode cX7_readBay 2 = .ok (.getfield 19, 3) := by decide +kernel
theorem dX7_readBay_5 : decode cX7_readBay 5 = .ok (.getfield 81, 3) := by decide +kernel
theorem dX7_readBay_8 : decode cX7_readBay 8 = .ok (.bipush 8, 2) := by decide +kernel
theorem dX7_readBay_10 : decode cX7_readBay 10 = .ok (.invokevirtual 84, 3) := by decide +kernel
theorem dX7_readBay_13 : decode cX7_readBay 13 = .ok (.aload_n 0, 1) := by decide +kernel
theorem dX7_readBay_14 : decode cX7_readBay 14 = .ok (.dup, 1) := by decide +kernel
theorem dX7_readBay_15 : decode cX7_readBay 15 = .ok (.getfield 28, 3) := by decide +kernel
theorem dX7_readBay_18 : decode cX7_readBay 18 = .ok (.iconst 1, 1) := by decide +kernel
theorem dX7_readBay_19 : decode cX7_readBay 19 = .ok (.iadd, 1) := by decide +kernel
theorem dX7_readBay_20 : decode cX7_readBay 20 = .ok (.putfield 28, 3) := by decide +kernel
theorem dX7_readBay_23 : decode cX7_readBay 23 = .ok (.aload_n 0, 1) := by decide +kernel
theorem dX7_readBay_24 : decode cX7_readBay 24 = .ok (.getfield 15, 3) := by decide +kernel
theorem dX7_readBay_27 : decode cX7_readBay 27 = .ok (.aload_n 0, 1) := by decide +kernel
theorem dX7_readBay_28 : decode cX7_readBay 28 = .ok (.getfield 28, 3) := by decide +kernel
theorem dX7_readBay_31 : decode cX7_readBay 31 = .ok (.invokevirtual 41, 3) := by decide +kernel
theorem dX7_readBay_34 : decode cX7_readBay 34 = .ok (.iconst 2, 1) := by decide +kernel
theorem dX7_readBay_35 : decode cX7_readBay 35 = .ok (.if_icmp .eq 11, 3) := by decide +kernel
theorem dX7_readBay_38 : decode cX7_readBay 38 = .ok (.aload_n 0, 1) := by decide +kernel
theorem dX7_readBay_39 : decode cX7_readBay 39 = .ok (.iconst 1, 1) := by decide +kernel
theorem dX7_readBay_40 : decode cX7_readBay 40 = .ok (.invokevirtual 78, 3) := by decide +kernel
theorem dX7_readBay_43 : decode cX7_readBay 43 = .ok (.goto 30, 3) := by decide +kernel
theorem dX7_readBay_46 : decode cX7_readBay 46 = .ok (.aload_n 0, 1) := by decide +kernel
theorem dX7_readBay_47 : decode cX7_readBay 47 = .ok (.getfield 19, 3) := by decide +kernel
theorem dX7_readBay_50 : decode cX7_readBay 50 = .ok (.aload_n 0, 1) := by decide +kernel
theorem dX7_readBay_51 : decode cX7_readBay 51 = .ok (.getfield 15, 3) := by decide +kernel
theorem dX7_readBay_54 : decode cX7_readBay 54 = .ok (.aload_n 0, 1) := by decide +kernel
theorem dX7_readBay_55 : decode cX7_readBay 55 = .ok (.getfield 28, 3) := by decide +kernel
theorem dX7_readBay_58 : decode cX7_readBay 58 = .ok (.invokevirtual 88, 3) := by decide +kernel
theorem dX7_readBay_61 : decode cX7_readBay 61 = .ok (.invokevirtual 91, 3) := by decide +kernel
theorem dX7_readBay_64 : decode cX7_readBay 64 = .ok (.iconst (-1), 1) := by decide +kernel
theorem dX7_readBay_65 : decode cX7_readBay 65 = .ok (.if_icmp .eq 8, 3) := by decide +kernel
theorem dX7_readBay_68 : decode cX7_readBay 68 = .ok (.aload_n 0, 1) := by decide +kernel
theorem dX7_readBay_69 : decode cX7_readBay 69 = .ok (.iconst 3, 1) := by decide +kernel
theorem dX7_readBay_70 : decode cX7_readBay 70 = .ok (.invokevirtual 78, 3) := by decide +kernel
theorem dX7_readBay_73 : decode cX7_readBay 73 = .ok (.aload_n 0, 1) := by decide +kernel
theorem dX7_readBay_74 : decode cX7_readBay 74 = .ok (.getfield 35, 3) := by decide +kernel
theorem dX7_readBay_77 : decode cX7_readBay 77 = .ok (.ifCond .ne 21, 3) := by decide +kernel
theorem dX7_readBay_80 : decode cX7_readBay 80 = .ok (.aload_n 0, 1) := by decide +kernel
theorem dX7_readBay_81 : decode cX7_readBay 81 = .ok (.getfield 19, 3) := by decide +kernel
theorem dX7_readBay_84 : decode cX7_readBay 84 = .ok (.aload_n 0, 1) := by decide +kernel
theorem dX7_readBay_85 : decode cX7_readBay 85 = .ok (.getfield 15, 3) := by decide +kernel
theorem dX7_readBay_88 : decode cX7_readBay 88 = .ok (.aload_n 0, 1) := by decide +kernel
theorem dX7_readBay_89 : decode cX7_readBay 89 = .ok (.getfield 28, 3) := by decide +kernel
theorem dX7_readBay_92 : decode cX7_readBay 92 = .ok (.invokevirtual 88, 3) := by decide +kernel
theorem dX7_readBay_95 : decode cX7_readBay 95 = .ok (.invokevirtual 94, 3) := by decide +kernel
theorem dX7_readBay_98 : decode cX7_readBay 98 = .ok (.aload_n 0, 1) := by decide +kernel
theorem dX7_readBay_99 : decode cX7_readBay 99 = .ok (.dup, 1) := by decide +kernel
theorem dX7_readBay_100 : decode cX7_readBay 100 = .ok (.getfield 28, 3) := by decide +kernel
theorem dX7_readBay_103 : decode cX7_readBay 103 = .ok (.iconst 1, 1) := by decide +kernel
theorem dX7_readBay_104 : decode cX7_readBay 104 = .ok (.iadd, 1) := by decide +kernel
theorem dX7_readBay_105 : decode cX7_readBay 105 = .ok (.putfield 28, 3) := by decide +kernel
theorem dX7_readBay_108 : decode cX7_readBay 108 = .ok (.return_, 1) := by decide +kernel
set_option maxRecDepth 20000 in
theorem ggX7_readLane_X7_needRoom : GoodIn wsX7_readLane wsX7_needRoom := goodIn_r _ [8, 9, 10, 11, 7, 12, 3, 2, 13, 56, 57, 58, 59, 60, 61, 62, 63, 64, 65, 66, 67] rfl (by decide +kernel)
set_option maxRecDepth 20000 in
theorem gX7_readLane_X7_needRoom : GoodIn wsX7_readLane (wsV RX7 84 RX7 yX7_needRoom wsX7_needRoom) := goodIn_app (goodIn_r _ [4, 5, 6, 7] rfl (by decide +kernel)) ggX7_readLane_X7_needRoom
set_option maxRecDepth 20000 in
theorem ggX7_readLane_X7_toldBay : GoodIn wsX7_readLane wsX7_toldBay := goodIn_r _ [17, 18, 2, 1, 19, 20, 21, 22, 23, 24, 25, 9, 10, 11, 7, 12, 3, 13, 26, 27, 28, 29, 30, 31, 32, 33, 34, 35, 36, 37, 56, 57, 58, 59, 60, 61, 62, 63, 64, 65, 66, 67, 83, 84, 85, 86, 87, 88, 89, 90, 91, 68, 69, 70, 71, 72, 73, 74, 75, 76, 77, 78, 79, 80, 81, 82] rfl (by decide +kernel)
set_option maxRecDepth 20000 in
theorem gX7_readLane_X7_toldBay : GoodIn wsX7_readLane (wsV RX7 100 RX7 yX7_toldBay wsX7_toldBay) := goodIn_app (goodIn_r _ [14, 15, 16, 7] rfl (by decide +kernel)) ggX7_readLane_X7_toldBay
set_option maxRecDepth 20000 in
theorem ggX7_readLane_X7_fail : GoodIn wsX7_readLane wsX7_fail := goodIn_r _ [12, 3, 2, 13, 56, 57, 58, 59, 60, 61, 62, 63, 64, 65, 66, 67] rfl (by decide +kernel)
set_option maxRecDepth 20000 in
theorem gX7_readLane_X7_fail : GoodIn wsX7_readLane (wsV RX7 78 RX7 yX7_fail wsX7_fail) := goodIn_app (goodIn_r _ [9, 10, 11, 7] rfl (by decide +kernel)) ggX7_readLane_X7_fail
set_option maxRecDepth 20000 in
theorem ggX7_readLane_X0_daysBetween : GoodIn wsX7_readLane wsX0_daysBetween := goodIn_r _ [41, 42, 43, 44, 45, 34, 46, 36, 68, 69, 70, 71, 72, 73, 74, 75, 76, 77, 78, 79, 80, 81, 82] rfl (by decide +kernel)
set_option maxRecDepth 20000 in
theorem gX7_readLane_X0_daysBetween : GoodIn wsX7_readLane (wsV RX7 104 RX0 yX0_daysBetween wsX0_daysBetween) := goodIn_app (goodIn_r _ [38, 39, 40, 34] rfl (by decide +kernel)) ggX7_readLane_X0_daysBetween
set_option maxRecDepth 20000 in
theorem ggX7_readLane_X7_takeNumber : GoodIn wsX7_readLane wsX7_takeNumber := goodIn_r _ [50, 18, 2, 26, 27, 28, 22, 29, 24, 30, 19, 20, 21, 23, 25, 9, 10, 11, 7, 12, 3, 13, 56, 57, 58, 59, 60, 61, 62, 63, 64, 65, 66, 67, 83, 84, 85, 86, 87, 88, 89, 90, 91] rfl (by decide +kernel)
set_option maxRecDepth 20000 in
theorem gX7_readLane_X7_takeNumber : GoodIn wsX7_readLane (wsV RX7 108 RX7 yX7_takeNumber wsX7_takeNumber) := goodIn_app (goodIn_r _ [47, 48, 49, 7] rfl (by decide +kernel)) ggX7_readLane_X7_takeNumber
set_option maxRecDepth 20000 in
theorem ggX7_readLane_X0_addLane : GoodIn wsX7_readLane wsX0_addLane := goodIn_r _ [54, 42, 55, 43, 44, 45, 34, 46, 36, 68, 69, 70, 71, 72, 73, 74, 75, 76, 77, 78, 79, 80, 81, 82] rfl (by decide +kernel)
set_option maxRecDepth 20000 in
theorem gX7_readLane_X0_addLane : GoodIn wsX7_readLane (wsV RX7 111 RX0 yX0_addLane wsX0_addLane) := goodIn_app (goodIn_r _ [51, 52, 53, 34] rfl (by decide +kernel)) ggX7_readLane_X0_addLane
theorem dX7_readLane_0 : decode cX7_readLane 0 = .ok (.aload_n 0, 1) := by decide +kernel
theorem dX7_readLane_1 : decode cX7_readLane 1 = .ok (.aload_n 0, 1) := by decide +kernel
theorem dX7_readLane_2 : decode cX7_readLane 2 = .ok (.getfield 19, 3) := by decide +kernel
theorem dX7_readLane_5 : decode cX7_readLane 5 = .ok (.getfield 97, 3) := by decide +kernel
theorem dX7_readLane_8 : decode cX7_readLane 8 = .ok (.bipush 12, 2) := by decide +kernel
theorem dX7_readLane_10 : decode cX7_readLane 10 = .ok (.invokevirtual 84, 3) := by decide +kernel
theorem dX7_readLane_13 : decode cX7_readLane 13 = .ok (.aload_n 0, 1) := by decide +kernel
theorem dX7_readLane_14 : decode cX7_readLane 14 = .ok (.dup, 1) := by decide +kernel
theorem dX7_readLane_15 : decode cX7_readLane 15 = .ok (.getfield 28, 3) := by decide +kernel
theorem dX7_readLane_18 : decode cX7_readLane 18 = .ok (.iconst 1, 1) := by decide +kernel
theorem dX7_readLane_19 : decode cX7_readLane 19 = .ok (.iadd, 1) := by decide +kernel
theorem dX7_readLane_20 : decode cX7_readLane 20 = .ok (.putfield 28, 3) := by decide +kernel
theorem dX7_readLane_23 : decode cX7_readLane 23 = .ok (.aload_n 0, 1) := by decide +kernel
theorem dX7_readLane_24 : decode cX7_readLane 24 = .ok (.invokevirtual 100, 3) := by decide +kernel
theorem dX7_readLane_27 : decode cX7_readLane 27 = .ok (.istore_n 1, 1) := by decide +kernel
theorem dX7_readLane_28 : decode cX7_readLane 28 = .ok (.aload_n 0, 1) := by decide +kernel
theorem dX7_readLane_29 : decode cX7_readLane 29 = .ok (.dup, 1) := by decide +kernel
theorem dX7_readLane_30 : decode cX7_readLane 30 = .ok (.getfield 28, 3) := by decide +kernel
theorem dX7_readLane_33 : decode cX7_readLane 33 = .ok (.iconst 1, 1) := by decide +kernel
theorem dX7_readLane_34 : decode cX7_readLane 34 = .ok (.iadd, 1) := by decide +kernel
theorem dX7_readLane_35 : decode cX7_readLane 35 = .ok (.putfield 28, 3) := by decide +kernel
theorem dX7_readLane_38 : decode cX7_readLane 38 = .ok (.aload_n 0, 1) := by decide +kernel
theorem dX7_readLane_39 : decode cX7_readLane 39 = .ok (.invokevirtual 100, 3) := by decide +kernel
theorem dX7_readLane_42 : decode cX7_readLane 42 = .ok (.istore_n 2, 1) := by decide +kernel
theorem dX7_readLane_43 : decode cX7_readLane 43 = .ok (.iload_n 1, 1) := by decide +kernel
theorem dX7_readLane_44 : decode cX7_readLane 44 = .ok (.iload_n 2, 1) := by decide +kernel
theorem dX7_readLane_45 : decode cX7_readLane 45 = .ok (.if_icmp .ne 11, 3) := by decide +kernel
theorem dX7_readLane_48 : decode cX7_readLane 48 = .ok (.aload_n 0, 1) := by decide +kernel
theorem dX7_readLane_49 : decode cX7_readLane 49 = .ok (.iconst 5, 1) := by decide +kernel
theorem dX7_readLane_50 : decode cX7_readLane 50 = .ok (.invokevirtual 78, 3) := by decide +kernel
theorem dX7_readLane_53 : decode cX7_readLane 53 = .ok (.goto 20, 3) := by decide +kernel
theorem dX7_readLane_56 : decode cX7_readLane 56 = .ok (.aload_n 0, 1) := by decide +kernel
theorem dX7_readLane_57 : decode cX7_readLane 57 = .ok (.getfield 19, 3) := by decide +kernel
theorem dX7_readLane_60 : decode cX7_readLane 60 = .ok (.iload_n 1, 1) := by decide +kernel
theorem dX7_readLane_61 : decode cX7_readLane 61 = .ok (.iload_n 2, 1) := by decide +kernel
theorem dX7_readLane_62 : decode cX7_readLane 62 = .ok (.invokevirtual 104, 3) := by decide +kernel
theorem dX7_readLane_65 : decode cX7_readLane 65 = .ok (.ifCond .eq 8, 3) := by decide +kernel
theorem dX7_readLane_68 : decode cX7_readLane 68 = .ok (.aload_n 0, 1) := by decide +kernel
theorem dX7_readLane_69 : decode cX7_readLane 69 = .ok (.iconst 3, 1) := by decide +kernel
theorem dX7_readLane_70 : decode cX7_readLane 70 = .ok (.invokevirtual 78, 3) := by decide +kernel
theorem dX7_readLane_73 : decode cX7_readLane 73 = .ok (.aload_n 0, 1) := by decide +kernel
theorem dX7_readLane_74 : decode cX7_readLane 74 = .ok (.dup, 1) := by decide +kernel
theorem dX7_readLane_75 : decode cX7_readLane 75 = .ok (.getfield 28, 3) := by decide +kernel
theorem dX7_readLane_78 : decode cX7_readLane 78 = .ok (.iconst 1, 1) := by decide +kernel
theorem dX7_readLane_79 : decode cX7_readLane 79 = .ok (.iadd, 1) := by decide +kernel
theorem dX7_readLane_80 : decode cX7_readLane 80 = .ok (.putfield 28, 3) := by decide +kernel
theorem dX7_readLane_83 : decode cX7_readLane 83 = .ok (.aload_n 0, 1) := by decide +kernel
theorem dX7_readLane_84 : decode cX7_readLane 84 = .ok (.iconst 1, 1) := by decide +kernel
theorem dX7_readLane_85 : decode cX7_readLane 85 = .ok (.bipush 9, 2) := by decide +kernel
theorem dX7_readLane_87 : decode cX7_readLane 87 = .ok (.invokevirtual 108, 3) := by decide +kernel
theorem dX7_readLane_90 : decode cX7_readLane 90 = .ok (.istore_n 3, 1) := by decide +kernel
theorem dX7_readLane_91 : decode cX7_readLane 91 = .ok (.aload_n 0, 1) := by decide +kernel
theorem dX7_readLane_92 : decode cX7_readLane 92 = .ok (.getfield 35, 3) := by decide +kernel
theorem dX7_readLane_95 : decode cX7_readLane 95 = .ok (.ifCond .ne 13, 3) := by decide +kernel
theorem dX7_readLane_98 : decode cX7_readLane 98 = .ok (.aload_n 0, 1) := by decide +kernel
theorem dX7_readLane_99 : decode cX7_readLane 99 = .ok (.getfield 19, 3) := by decide +kernel
theorem dX7_readLane_102 : decode cX7_readLane 102 = .ok (.iload_n 1, 1) := by decide +kernel
theorem dX7_readLane_103 : decode cX7_readLane 103 = .ok (.iload_n 2, 1) := by decide +kernel
theorem dX7_readLane_104 : decode cX7_readLane 104 = .ok (.iload_n 3, 1) := by decide +kernel
theorem dX7_readLane_105 : decode cX7_readLane 105 = .ok (.invokevirtual 111, 3) := by decide +kernel
theorem dX7_readLane_108 : decode cX7_readLane 108 = .ok (.return_, 1) := by decide +kernel
set_option maxRecDepth 20000 in
theorem ggX7_readDeed_X7_needRoom : GoodIn wsX7_readDeed wsX7_needRoom := goodIn_r _ [8, 9, 10, 11, 7, 12, 3, 2, 13, 50, 51, 52, 53, 54, 55, 56, 57, 58, 59, 60, 61] rfl (by decide +kernel)
set_option maxRecDepth 20000 in
theorem gX7_readDeed_X7_needRoom : GoodIn wsX7_readDeed (wsV RX7 84 RX7 yX7_needRoom wsX7_needRoom) := goodIn_app (goodIn_r _ [4, 5, 6, 7] rfl (by decide +kernel)) ggX7_readDeed_X7_needRoom
set_option maxRecDepth 20000 in
theorem ggX7_readDeed_X7_toldBay : GoodIn wsX7_readDeed wsX7_toldBay := goodIn_r _ [17, 18, 2, 1, 19, 20, 21, 22, 23, 24, 25, 9, 10, 11, 7, 12, 3, 13, 26, 27, 28, 29, 30, 31, 32, 33, 34, 35, 36, 37, 50, 51, 52, 53, 54, 55, 56, 57, 58, 59, 60, 61, 77, 78, 79, 80, 81, 82, 83, 84, 85, 62, 63, 64, 65, 66, 67, 68, 69, 70, 71, 72, 73, 74, 75, 76] rfl (by decide +kernel)
set_option maxRecDepth 20000 in
theorem gX7_readDeed_X7_toldBay : GoodIn wsX7_readDeed (wsV RX7 100 RX7 yX7_toldBay wsX7_toldBay) := goodIn_app (goodIn_r _ [14, 15, 16, 7] rfl (by decide +kernel)) ggX7_readDeed_X7_toldBay
set_option maxRecDepth 20000 in
theorem ggX7_readDeed_X7_takeNumber : GoodIn wsX7_readDeed wsX7_takeNumber := goodIn_r _ [41, 18, 2, 26, 27, 28, 22, 29, 24, 30, 19, 20, 21, 23, 25, 9, 10, 11, 7, 12, 3, 13, 50, 51, 52, 53, 54, 55, 56, 57, 58, 59, 60, 61, 77, 78, 79, 80, 81, 82, 83, 84, 85] rfl (by decide +kernel)
set_option maxRecDepth 20000 in
theorem gX7_readDeed_X7_takeNumber : GoodIn wsX7_readDeed (wsV RX7 108 RX7 yX7_takeNumber wsX7_takeNumber) := goodIn_app (goodIn_r _ [38, 39, 40, 7] rfl (by decide +kernel)) ggX7_readDeed_X7_takeNumber
set_option maxRecDepth 20000 in
theorem ggX7_readDeed_X0_addDeed : GoodIn wsX7_readDeed wsX0_addDeed := goodIn_r _ [45, 46, 47, 48, 49, 62, 63, 64, 65, 66, 67, 68, 69, 70, 71, 72, 73, 74, 75, 76] rfl (by decide +kernel)
set_option maxRecDepth 20000 in
theorem gX7_readDeed_X0_addDeed : GoodIn wsX7_readDeed (wsV RX7 118 RX0 yX0_addDeed wsX0_addDeed) := goodIn_app (goodIn_r _ [42, 43, 44, 34] rfl (by decide +kernel)) ggX7_readDeed_X0_addDeed
theorem dX7_readDeed_0 : decode cX7_readDeed 0 = .ok (.aload_n 0, 1) := by decide +kernel
theorem dX7_readDeed_1 : decode cX7_readDeed 1 = .ok (.aload_n 0, 1) := by decide +kernel
theorem dX7_readDeed_2 : decode cX7_readDeed 2 = .ok (.getfield 19, 3) := by decide +kernel
theorem dX7_readDeed_5 : decode cX7_readDeed 5 = .ok (.getfield 115, 3) := by decide +kernel
theorem dX7_readDeed_8 : decode cX7_readDeed 8 = .ok (.bipush 12, 2) := by decide +kernel
theorem dX7_readDeed_10 : decode cX7_readDeed 10 = .ok (.invokevirtual 84, 3) := by decide +kernel
theorem dX7_readDeed_13 : decode cX7_readDeed 13 = .ok (.aload_n 0, 1) := by decide +kernel
theorem dX7_readDeed_14 : decode cX7_readDeed 14 = .ok (.dup, 1) := by decide +kernel
theorem dX7_readDeed_15 : decode cX7_readDeed 15 = .ok (.getfield 28, 3) := by decide +kernel
theorem dX7_readDeed_18 : decode cX7_readDeed 18 = .ok (.iconst 1, 1) := by decide +kernel
theorem dX7_readDeed_19 : decode cX7_readDeed 19 = .ok (.iadd, 1) := by decide +kernel
theorem dX7_readDeed_20 : decode cX7_readDeed 20 = .ok (.putfield 28, 3) := by decide +kernel
theorem dX7_readDeed_23 : decode cX7_readDeed 23 = .ok (.aload_n 0, 1) := by decide +kernel
theorem dX7_readDeed_24 : decode cX7_readDeed 24 = .ok (.invokevirtual 100, 3) := by decide +kernel
theorem dX7_readDeed_27 : decode cX7_readDeed 27 = .ok (.istore_n 1, 1) := by decide +kernel
theorem dX7_readDeed_28 : decode cX7_readDeed 28 = .ok (.aload_n 0, 1) := by decide +kernel
theorem dX7_readDeed_29 : decode cX7_readDeed 29 = .ok (.dup, 1) := by decide +kernel
theorem dX7_readDeed_30 : decode cX7_readDeed 30 = .ok (.getfield 28, 3) := by decide +kernel
theorem dX7_readDeed_33 : decode cX7_readDeed 33 = .ok (.iconst 1, 1) := by decide +kernel
theorem dX7_readDeed_34 : decode cX7_readDeed 34 = .ok (.iadd, 1) := by decide +kernel
theorem dX7_readDeed_35 : decode cX7_readDeed 35 = .ok (.putfield 28, 3) := by decide +kernel
theorem dX7_readDeed_38 : decode cX7_readDeed 38 = .ok (.aload_n 0, 1) := by decide +kernel
theorem dX7_readDeed_39 : decode cX7_readDeed 39 = .ok (.iconst 0, 1) := by decide +kernel
theorem dX7_readDeed_40 : decode cX7_readDeed 40 = .ok (.bipush 99, 2) := by decide +kernel
theorem dX7_readDeed_42 : decode cX7_readDeed 42 = .ok (.invokevirtual 108, 3) := by decide +kernel
theorem dX7_readDeed_45 : decode cX7_readDeed 45 = .ok (.istore_n 2, 1) := by decide +kernel
theorem dX7_readDeed_46 : decode cX7_readDeed 46 = .ok (.aload_n 0, 1) := by decide +kernel
theorem dX7_readDeed_47 : decode cX7_readDeed 47 = .ok (.iconst 0, 1) := by decide +kernel
theorem dX7_readDeed_48 : decode cX7_readDeed 48 = .ok (.bipush 9, 2) := by decide +kernel
theorem dX7_readDeed_50 : decode cX7_readDeed 50 = .ok (.invokevirtual 108, 3) := by decide +kernel
theorem dX7_readDeed_53 : decode cX7_readDeed 53 = .ok (.istore_n 3, 1) := by decide +kernel
theorem dX7_readDeed_54 : decode cX7_readDeed 54 = .ok (.aload_n 0, 1) := by decide +kernel
theorem dX7_readDeed_55 : decode cX7_readDeed 55 = .ok (.getfield 35, 3) := by decide +kernel
theorem dX7_readDeed_58 : decode cX7_readDeed 58 = .ok (.ifCond .ne 13, 3) := by decide +kernel
theorem dX7_readDeed_61 : decode cX7_readDeed 61 = .ok (.aload_n 0, 1) := by decide +kernel
theorem dX7_readDeed_62 : decode cX7_readDeed 62 = .ok (.getfield 19, 3) := by decide +kernel
theorem dX7_readDeed_65 : decode cX7_readDeed 65 = .ok (.iload_n 1, 1) := by decide +kernel
theorem dX7_readDeed_66 : decode cX7_readDeed 66 = .ok (.iload_n 2, 1) := by decide +kernel
theorem dX7_readDeed_67 : decode cX7_readDeed 67 = .ok (.iload_n 3, 1) := by decide +kernel
theorem dX7_readDeed_68 : decode cX7_readDeed 68 = .ok (.invokevirtual 118, 3) := by decide +kernel
theorem dX7_readDeed_71 : decode cX7_readDeed 71 = .ok (.return_, 1) := by decide +kernel
set_option maxRecDepth 20000 in
theorem ggX7_readWind_X7_needRoom : GoodIn wsX7_readWind wsX7_needRoom := goodIn_r _ [8, 9, 10, 11, 7, 12, 3, 2, 13, 38, 39, 40, 41, 42, 43, 44, 45, 46, 47, 48, 49] rfl (by decide +kernel)
set_option maxRecDepth 20000 in
theorem gX7_readWind_X7_needRoom : GoodIn wsX7_readWind (wsV RX7 84 RX7 yX7_needRoom wsX7_needRoom) := goodIn_app (goodIn_r _ [4, 5, 6, 7] rfl (by decide +kernel)) ggX7_readWind_X7_needRoom
set_option maxRecDepth 20000 in
theorem ggX7_readWind_X7_takeNumber : GoodIn wsX7_readWind wsX7_takeNumber := goodIn_r _ [17, 18, 2, 19, 20, 21, 22, 23, 24, 25, 26, 27, 28, 29, 30, 9, 10, 11, 7, 12, 3, 13, 38, 39, 40, 41, 42, 43, 44, 45, 46, 47, 48, 49, 65, 66, 67, 68, 69, 70, 71, 72, 73] rfl (by decide +kernel)
set_option maxRecDepth 20000 in
theorem gX7_readWind_X7_takeNumber : GoodIn wsX7_readWind (wsV RX7 108 RX7 yX7_takeNumber wsX7_takeNumber) := goodIn_app (goodIn_r _ [14, 15, 16, 7] rfl (by decide +kernel)) ggX7_readWind_X7_takeNumber
set_option maxRecDepth 20000 in
theorem ggX7_readWind_X0_addWind : GoodIn wsX7_readWind wsX0_addWind := goodIn_r _ [35, 36, 37, 50, 51, 52, 53, 54, 55, 56, 57, 58, 59, 60, 61, 62, 63, 64] rfl (by decide +kernel)
set_option maxRecDepth 20000 in
theorem gX7_readWind_X0_addWind : GoodIn wsX7_readWind (wsV RX7 124 RX0 yX0_addWind wsX0_addWind) := goodIn_app (goodIn_r _ [31, 32, 33, 34] rfl (by decide +kernel)) ggX7_readWind_X0_addWind
theorem dX7_readWind_0 : decode cX7_readWind 0 = .ok (.aload_n 0, 1) := by decide +kernel
theorem dX7_readWind_1 : decode cX7_readWind 1 = .ok (.aload_n 0, 1) := by decide +kernel
theorem dX7_readWind_2 : decode cX7_readWind 2 = .ok (.getfield 19, 3) := by decide +kernel
theorem dX7_readWind_5 : decode cX7_readWind 5 = .ok (.getfield 121, 3) := by decide +kernel
theorem dX7_readWind_8 : decode cX7_readWind 8 = .ok (.bipush 20, 2) := by decide +kernel
theorem dX7_readWind_10 : decode cX7_readWind 10 = .ok (.invokevirtual 84, 3) := by decide +kernel
theorem dX7_readWind_13 : decode cX7_readWind 13 = .ok (.aload_n 0, 1) := by decide +kernel
theorem dX7_readWind_14 : decode cX7_readWind 14 = .ok (.dup, 1) := by decide +kernel
theorem dX7_readWind_15 : decode cX7_readWind 15 = .ok (.getfield 28, 3) := by decide +kernel
theorem dX7_readWind_18 : decode cX7_readWind 18 = .ok (.iconst 1, 1) := by decide +kernel
theorem dX7_readWind_19 : decode cX7_readWind 19 = .ok (.iadd, 1) := by decide +kernel
theorem dX7_readWind_20 : decode cX7_readWind 20 = .ok (.putfield 28, 3) := by decide +kernel
theorem dX7_readWind_23 : decode cX7_readWind 23 = .ok (.aload_n 0, 1) := by decide +kernel
theorem dX7_readWind_24 : decode cX7_readWind 24 = .ok (.iconst 0, 1) := by decide +kernel
theorem dX7_readWind_25 : decode cX7_readWind 25 = .ok (.bipush 9, 2) := by decide +kernel
theorem dX7_readWind_27 : decode cX7_readWind 27 = .ok (.invokevirtual 108, 3) := by decide +kernel
theorem dX7_readWind_30 : decode cX7_readWind 30 = .ok (.istore_n 1, 1) := by decide +kernel
theorem dX7_readWind_31 : decode cX7_readWind 31 = .ok (.aload_n 0, 1) := by decide +kernel
theorem dX7_readWind_32 : decode cX7_readWind 32 = .ok (.getfield 35, 3) := by decide +kernel
theorem dX7_readWind_35 : decode cX7_readWind 35 = .ok (.ifCond .ne 11, 3) := by decide +kernel
theorem dX7_readWind_38 : decode cX7_readWind 38 = .ok (.aload_n 0, 1) := by decide +kernel
theorem dX7_readWind_39 : decode cX7_readWind 39 = .ok (.getfield 19, 3) := by decide +kernel
theorem dX7_readWind_42 : decode cX7_readWind 42 = .ok (.iload_n 1, 1) := by decide +kernel
theorem dX7_readWind_43 : decode cX7_readWind 43 = .ok (.invokevirtual 124, 3) := by decide +kernel
theorem dX7_readWind_46 : decode cX7_readWind 46 = .ok (.return_, 1) := by decide +kernel
set_option maxRecDepth 20000 in
theorem ggX7_readShip_X7_needOnce : GoodIn wsX7_readShip wsX7_needOnce := goodIn_r _ [7, 8, 9, 10, 11, 6, 12, 13, 1, 14, 39, 40, 41, 42, 43, 44, 45, 46, 47, 48, 49, 50] rfl (by decide +kernel)
set_option maxRecDepth 20000 in
theorem gX7_readShip_X7_needOnce : GoodIn wsX7_readShip (wsV RX7 127 RX7 yX7_needOnce wsX7_needOnce) := goodIn_app (goodIn_r _ [3, 4, 5, 6] rfl (by decide +kernel)) ggX7_readShip_X7_needOnce
set_option maxRecDepth 20000 in
theorem ggX7_readShip_X7_toldBay : GoodIn wsX7_readShip wsX7_toldBay := goodIn_r _ [18, 19, 1, 2, 20, 21, 22, 23, 24, 25, 26, 9, 10, 11, 6, 12, 13, 14, 27, 28, 29, 30, 31, 32, 33, 34, 35, 36, 37, 38, 39, 40, 41, 42, 43, 44, 45, 46, 47, 48, 49, 50, 66, 67, 68, 69, 70, 71, 72, 73, 74, 51, 52, 53, 54, 55, 56, 57, 58, 59, 60, 61, 62, 63, 64, 65] rfl (by decide +kernel)
set_option maxRecDepth 20000 in
theorem gX7_readShip_X7_toldBay : GoodIn wsX7_readShip (wsV RX7 100 RX7 yX7_toldBay wsX7_toldBay) := goodIn_app (goodIn_r _ [15, 16, 17, 6] rfl (by decide +kernel)) ggX7_readShip_X7_toldBay
theorem dX7_readShip_0 : decode cX7_readShip 0 = .ok (.aload_n 0, 1) := by decide +kernel
theorem dX7_readShip_1 : decode cX7_readShip 1 = .ok (.bipush 14, 2) := by decide +kernel
theorem dX7_readShip_3 : decode cX7_readShip 3 = .ok (.invokevirtual 127, 3) := by decide +kernel
theorem dX7_readShip_6 : decode cX7_readShip 6 = .ok (.aload_n 0, 1) := by decide +kernel
theorem dX7_readShip_7 : decode cX7_readShip 7 = .ok (.dup, 1) := by decide +kernel
theorem dX7_readShip_8 : decode cX7_readShip 8 = .ok (.getfield 28, 3) := by decide +kernel
theorem dX7_readShip_11 : decode cX7_readShip 11 = .ok (.iconst 1, 1) := by decide +kernel
theorem dX7_readShip_12 : decode cX7_readShip 12 = .ok (.iadd, 1) := by decide +kernel
theorem dX7_readShip_13 : decode cX7_readShip 13 = .ok (.putfield 28, 3) := by decide +kernel
theorem dX7_readShip_16 : decode cX7_readShip 16 = .ok (.aload_n 0, 1) := by decide +kernel
theorem dX7_readShip_17 : decode cX7_readShip 17 = .ok (.getfield 19, 3) := by decide +kernel
theorem dX7_readShip_20 : decode cX7_readShip 20 = .ok (.aload_n 0, 1) := by decide +kernel
theorem dX7_readShip_21 : decode cX7_readShip 21 = .ok (.invokevirtual 100, 3) := by decide +kernel
theorem dX7_readShip_24 : decode cX7_readShip 24 = .ok (.putfield 130, 3) := by decide +kernel
theorem dX7_readShip_27 : decode cX7_readShip 27 = .ok (.aload_n 0, 1) := by decide +kernel
theorem dX7_readShip_28 : decode cX7_readShip 28 = .ok (.dup, 1) := by decide +kernel
theorem dX7_readShip_29 : decode cX7_readShip 29 = .ok (.getfield 28, 3) := by decide +kernel
theorem dX7_readShip_32 : decode cX7_readShip 32 = .ok (.iconst 1, 1) := by decide +kernel
theorem dX7_readShip_33 : decode cX7_readShip 33 = .ok (.iadd, 1) := by decide +kernel
theorem dX7_readShip_34 : decode cX7_readShip 34 = .ok (.putfield 28, 3) := by decide +kernel
theorem dX7_readShip_37 : decode cX7_readShip 37 = .ok (.return_, 1) := by decide +kernel
set_option maxRecDepth 20000 in
theorem ggX7_readSetting_X7_needOnce : GoodIn wsX7_readSetting wsX7_needOnce := goodIn_r _ [8, 9, 10, 11, 12, 7, 13, 14, 1, 15, 33, 34, 35, 36, 37, 38, 39, 40, 41, 42, 43, 44] rfl (by decide +kernel)
set_option maxRecDepth 20000 in
theorem gX7_readSetting_X7_needOnce : GoodIn wsX7_readSetting (wsV RX7 127 RX7 yX7_needOnce wsX7_needOnce) := goodIn_app (goodIn_r _ [4, 5, 6, 7] rfl (by decide +kernel)) ggX7_readSetting_X7_needOnce
set_option maxRecDepth 20000 in
theorem ggX7_readSetting_X7_takeNumber : GoodIn wsX7_readSetting wsX7_takeNumber := goodIn_r _ [19, 20, 1, 21, 22, 23, 24, 25, 26, 27, 28, 29, 30, 31, 32, 10, 11, 12, 7, 13, 14, 15, 33, 34, 35, 36, 37, 38, 39, 40, 41, 42, 43, 44, 60, 61, 62, 63, 64, 65, 66, 67, 68] rfl (by decide +kernel)
set_option maxRecDepth 20000 in
theorem gX7_readSetting_X7_takeNumber : GoodIn wsX7_readSetting (wsV RX7 108 RX7 yX7_takeNumber wsX7_takeNumber) := goodIn_app (goodIn_r _ [16, 17, 18, 7] rfl (by decide +kernel)) ggX7_readSetting_X7_takeNumber
theorem dX7_readSetting_0 : decode cX7_readSetting 0 = .ok (.aload_n 0, 1) := by decide +kernel
theorem dX7_readSetting_1 : decode cX7_readSetting 1 = .ok (.iload_n 1, 1) := by decide +kernel
theorem dX7_readSetting_2 : decode cX7_readSetting 2 = .ok (.invokevirtual 127, 3) := by decide +kernel
theorem dX7_readSetting_5 : decode cX7_readSetting 5 = .ok (.aload_n 0, 1) := by decide +kernel
theorem dX7_readSetting_6 : decode cX7_readSetting 6 = .ok (.dup, 1) := by decide +kernel
theorem dX7_readSetting_7 : decode cX7_readSetting 7 = .ok (.getfield 28, 3) := by decide +kernel
theorem dX7_readSetting_10 : decode cX7_readSetting 10 = .ok (.iconst 1, 1) := by decide +kernel
theorem dX7_readSetting_11 : decode cX7_readSetting 11 = .ok (.iadd, 1) := by decide +kernel
theorem dX7_readSetting_12 : decode cX7_readSetting 12 = .ok (.putfield 28, 3) := by decide +kernel
theorem dX7_readSetting_15 : decode cX7_readSetting 15 = .ok (.iload_n 1, 1) := by decide +kernel
theorem dX7_readSetting_16 : decode cX7_readSetting 16 = .ok (.bipush 15, 2) := by decide +kernel
theorem dX7_readSetting_18 : decode cX7_readSetting 18 = .ok (.if_icmp .ne 20, 3) := by decide +kernel
theorem dX7_readSetting_21 : decode cX7_readSetting 21 = .ok (.aload_n 0, 1) := by decide +kernel
theorem dX7_readSetting_22 : decode cX7_readSetting 22 = .ok (.getfield 19, 3) := by decide +kernel
theorem dX7_readSetting_25 : decode cX7_readSetting 25 = .ok (.aload_n 0, 1) := by decide +kernel
theorem dX7_readSetting_26 : decode cX7_readSetting 26 = .ok (.iconst 1, 1) := by decide +kernel
theorem dX7_readSetting_27 : decode cX7_readSetting 27 = .ok (.bipush 9, 2) := by decide +kernel
theorem dX7_readSetting_29 : decode cX7_readSetting 29 = .ok (.invokevirtual 108, 3) := by decide +kernel
theorem dX7_readSetting_32 : decode cX7_readSetting 32 = .ok (.putfield 133, 3) := by decide +kernel
theorem dX7_readSetting_35 : decode cX7_readSetting 35 = .ok (.goto 40, 3) := by decide +kernel
theorem dX7_readSetting_38 : decode cX7_readSetting 38 = .ok (.iload_n 1, 1) := by decide +kernel
theorem dX7_readSetting_39 : decode cX7_readSetting 39 = .ok (.bipush 16, 2) := by decide +kernel
theorem dX7_readSetting_41 : decode cX7_readSetting 41 = .ok (.if_icmp .ne 20, 3) := by decide +kernel
theorem dX7_readSetting_44 : decode cX7_readSetting 44 = .ok (.aload_n 0, 1) := by decide +kernel
theorem dX7_readSetting_45 : decode cX7_readSetting 45 = .ok (.getfield 19, 3) := by decide +kernel
theorem dX7_readSetting_48 : decode cX7_readSetting 48 = .ok (.aload_n 0, 1) := by decide +kernel
theorem dX7_readSetting_49 : decode cX7_readSetting 49 = .ok (.iconst 0, 1) := by decide +kernel
theorem dX7_readSetting_50 : decode cX7_readSetting 50 = .ok (.bipush 100, 2) := by decide +kernel
theorem dX7_readSetting_52 : decode cX7_readSetting 52 = .ok (.invokevirtual 108, 3) := by decide +kernel
theorem dX7_readSetting_55 : decode cX7_readSetting 55 = .ok (.putfield 136, 3) := by decide +kernel
theorem dX7_readSetting_58 : decode cX7_readSetting 58 = .ok (.goto 17, 3) := by decide +kernel
theorem dX7_readSetting_61 : decode cX7_readSetting 61 = .ok (.aload_n 0, 1) := by decide +kernel
theorem dX7_readSetting_62 : decode cX7_readSetting 62 = .ok (.getfield 19, 3) := by decide +kernel
theorem dX7_readSetting_65 : decode cX7_readSetting 65 = .ok (.aload_n 0, 1) := by decide +kernel
theorem dX7_readSetting_66 : decode cX7_readSetting 66 = .ok (.iconst 0, 1) := by decide +kernel
theorem dX7_readSetting_67 : decode cX7_readSetting 67 = .ok (.ldc 139, 2) := by decide +kernel
theorem dX7_readSetting_69 : decode cX7_readSetting 69 = .ok (.invokevirtual 108, 3) := by decide +kernel
theorem dX7_readSetting_72 : decode cX7_readSetting 72 = .ok (.putfield 140, 3) := by decide +kernel
theorem dX7_readSetting_75 : decode cX7_readSetting 75 = .ok (.return_, 1) := by decide +kernel
set_option maxRecDepth 20000 in
theorem ggX7_readLaw_X9_sortOf : GoodIn wsX7_readLaw wsX9_sortOf := goodIn_r _ [8, 9, 10, 114, 115, 116, 117, 118, 119, 120, 121, 122] rfl (by decide +kernel)
set_option maxRecDepth 20000 in
theorem gX7_readLaw_X9_sortOf : GoodIn wsX7_readLaw (wsV RX7 41 RX9 yX9_sortOf wsX9_sortOf) := goodIn_app (goodIn_r _ [4, 5, 6, 7] rfl (by decide +kernel)) ggX7_readLaw_X9_sortOf
set_option maxRecDepth 20000 in
theorem ggX7_readLaw_X7_fail : GoodIn wsX7_readLaw wsX7_fail := goodIn_r _ [15, 16, 1, 17, 87, 88, 89, 90, 91, 92, 93, 94, 95, 96, 97, 98] rfl (by decide +kernel)
set_option maxRecDepth 20000 in
theorem gX7_readLaw_X7_fail : GoodIn wsX7_readLaw (wsV RX7 78 RX7 yX7_fail wsX7_fail) := goodIn_app (goodIn_r _ [11, 12, 13, 14] rfl (by decide +kernel)) ggX7_readLaw_X7_fail
set_option maxRecDepth 20000 in
theorem ggX7_readLaw_X7_needOnce : GoodIn wsX7_readLaw wsX7_needOnce := goodIn_r _ [21, 22, 11, 12, 13, 14, 15, 16, 1, 17, 87, 88, 89, 90, 91, 92, 93, 94, 95, 96, 97, 98] rfl (by decide +kernel)
set_option maxRecDepth 20000 in
theorem gX7_readLaw_X7_needOnce : GoodIn wsX7_readLaw (wsV RX7 127 RX7 yX7_needOnce wsX7_needOnce) := goodIn_app (goodIn_r _ [18, 19, 20, 14] rfl (by decide +kernel)) ggX7_readLaw_X7_needOnce
set_option maxRecDepth 20000 in
theorem ggX7_readLaw_X4_begin : GoodIn wsX7_readLaw wsX4_begin := goodIn_r _ [27, 28, 29, 123, 124, 125, 126, 127, 128] rfl (by decide +kernel)
set_option maxRecDepth 20000 in
theorem gX7_readLaw_X4_begin : GoodIn wsX7_readLaw (wsV RX7 147 RX4 yX4_begin wsX4_begin) := goodIn_app (goodIn_r _ [23, 24, 25, 26] rfl (by decide +kernel)) ggX7_readLaw_X4_begin
set_option maxRecDepth 20000 in
theorem ggX7_readLaw_X7_readExpression : GoodIn wsX7_readLaw wsX7_readExpression := goodIn_r _ [33, 34, 35, 36, 37, 16, 2, 1, 4, 5, 6, 7, 8, 9, 10, 38, 39, 40, 14, 41, 3, 42, 43, 44, 45, 46, 11, 12, 13, 15, 17, 47, 48, 49, 50, 51, 52, 53, 54, 26, 55, 29, 56, 57, 58, 59, 60, 61, 62, 63, 64, 65, 66, 67, 68, 69, 70, 71, 72, 73, 74, 75, 76, 77, 78, 79, 80, 81, 87, 88, 89, 90, 91, 92, 93, 94, 95, 96, 97, 98, 114, 115, 116, 117, 118, 119, 120, 121, 122, 99, 100, 101, 102, 103, 104, 105, 106, 107, 108, 109, 110, 111, 112, 113, 123, 124, 125, 126, 127, 128] rfl (by decide +kernel)
set_option maxRecDepth 20000 in
theorem gX7_readLaw_X7_readExpression : GoodIn wsX7_readLaw (wsV RX7 152 RX7 yX7_readExpression wsX7_readExpression) := goodIn_app (goodIn_r _ [30, 31, 32, 14] rfl (by decide +kernel)) ggX7_readLaw_X7_readExpression
set_option maxRecDepth 20000 in
theorem ggX7_readLaw_X4_end : GoodIn wsX7_readLaw wsX4_end := goodIn_r _ [85, 86, 29, 123, 124, 125, 126, 127, 128] rfl (by decide +kernel)
set_option maxRecDepth 20000 in
theorem gX7_readLaw_X4_end : GoodIn wsX7_readLaw (wsV RX7 155 RX4 yX4_end wsX4_end) := goodIn_app (goodIn_r _ [82, 83, 84, 26] rfl (by decide +kernel)) ggX7_readLaw_X4_end
theorem dX7_readLaw_0 : decode cX7_readLaw 0 = .ok (.aload_n 0, 1) := by decide +kernel
theorem dX7_readLaw_1 : decode cX7_readLaw 1 = .ok (.dup, 1) := by decide +kernel
theorem dX7_readLaw_2 : decode cX7_readLaw 2 = .ok (.getfield 28, 3) := by decide +kernel
theorem dX7_readLaw_5 : decode cX7_readLaw 5 = .ok (.iconst 1, 1) := by decide +kernel
theorem dX7_readLaw_6 : decode cX7_readLaw 6 = .ok (.iadd, 1) := by decide +kernel
theorem dX7_readLaw_7 : decode cX7_readLaw 7 = .ok (.putfield 28, 3) := by decide +kernel
theorem dX7_readLaw_10 : decode cX7_readLaw 10 = .ok (.aload_n 0, 1) := by decide +kernel
theorem dX7_readLaw_11 : decode cX7_readLaw 11 = .ok (.getfield 15, 3) := by decide +kernel
theorem dX7_readLaw_14 : decode cX7_readLaw 14 = .ok (.aload_n 0, 1) := by decide +kernel
theorem dX7_readLaw_15 : decode cX7_readLaw 15 = .ok (.getfield 28, 3) := by decide +kernel
theorem dX7_readLaw_18 : decode cX7_readLaw 18 = .ok (.invokevirtual 41, 3) := by decide +kernel
theorem dX7_readLaw_21 : decode cX7_readLaw 21 = .ok (.bipush 19, 2) := by decide +kernel
theorem dX7_readLaw_23 : decode cX7_readLaw 23 = .ok (.isub, 1) := by decide +kernel
theorem dX7_readLaw_24 : decode cX7_readLaw 24 = .ok (.istore_n 1, 1) := by decide +kernel
theorem dX7_readLaw_25 : decode cX7_readLaw 25 = .ok (.iload_n 1, 1) := by decide +kernel
theorem dX7_readLaw_26 : decode cX7_readLaw 26 = .ok (.ifCond .lt 8, 3) := by decide +kernel
theorem dX7_readLaw_29 : decode cX7_readLaw 29 = .ok (.iload_n 1, 1) := by decide +kernel
theorem dX7_readLaw_30 : decode cX7_readLaw 30 = .ok (.iconst 2, 1) := by decide +kernel
theorem dX7_readLaw_31 : decode cX7_readLaw 31 = .ok (.if_icmp .le 9, 3) := by decide +kernel
theorem dX7_readLaw_34 : decode cX7_readLaw 34 = .ok (.aload_n 0, 1) := by decide +kernel
theorem dX7_readLaw_35 : decode cX7_readLaw 35 = .ok (.iconst 1, 1) := by decide +kernel
theorem dX7_readLaw_36 : decode cX7_readLaw 36 = .ok (.invokevirtual 78, 3) := by decide +kernel
theorem dX7_readLaw_39 : decode cX7_readLaw 39 = .ok (.return_, 1) := by decide +kernel
theorem dX7_readLaw_40 : decode cX7_readLaw 40 = .ok (.aload_n 0, 1) := by decide +kernel
theorem dX7_readLaw_41 : decode cX7_readLaw 41 = .ok (.aload_n 0, 1) := by decide +kernel
theorem dX7_readLaw_42 : decode cX7_readLaw 42 = .ok (.getfield 15, 3) := by decide +kernel
theorem dX7_readLaw_45 : decode cX7_readLaw 45 = .ok (.aload_n 0, 1) := by decide +kernel
theorem dX7_readLaw_46 : decode cX7_readLaw 46 = .ok (.getfield 28, 3) := by decide +kernel
theorem dX7_readLaw_49 : decode cX7_readLaw 49 = .ok (.invokevirtual 41, 3) := by decide +kernel
theorem dX7_readLaw_52 : decode cX7_readLaw 52 = .ok (.invokevirtual 127, 3) := by decide +kernel
theorem dX7_readLaw_55 : decode cX7_readLaw 55 = .ok (.aload_n 0, 1) := by decide +kernel
theorem dX7_readLaw_56 : decode cX7_readLaw 56 = .ok (.dup, 1) := by decide +kernel
theorem dX7_readLaw_57 : decode cX7_readLaw 57 = .ok (.getfield 28, 3) := by decide +kernel
theorem dX7_readLaw_60 : decode cX7_readLaw 60 = .ok (.iconst 1, 1) := by decide +kernel
theorem dX7_readLaw_61 : decode cX7_readLaw 61 = .ok (.iadd, 1) := by decide +kernel
theorem dX7_readLaw_62 : decode cX7_readLaw 62 = .ok (.putfield 28, 3) := by decide +kernel
theorem dX7_readLaw_65 : decode cX7_readLaw 65 = .ok (.aload_n 0, 1) := by decide +kernel
theorem dX7_readLaw_66 : decode cX7_readLaw 66 = .ok (.getfield 19, 3) := by decide +kernel
theorem dX7_readLaw_69 : decode cX7_readLaw 69 = .ok (.getfield 143, 3) := by decide +kernel
theorem dX7_readLaw_72 : decode cX7_readLaw 72 = .ok (.iload_n 1, 1) := by decide +kernel
theorem dX7_readLaw_73 : decode cX7_readLaw 73 = .ok (.invokevirtual 147, 3) := by decide +kernel
theorem dX7_readLaw_76 : decode cX7_readLaw 76 = .ok (.aload_n 0, 1) := by decide +kernel
theorem dX7_readLaw_77 : decode cX7_readLaw 77 = .ok (.invokevirtual 152, 3) := by decide +kernel
theorem dX7_readLaw_80 : decode cX7_readLaw 80 = .ok (.aload_n 0, 1) := by decide +kernel
theorem dX7_readLaw_81 : decode cX7_readLaw 81 = .ok (.getfield 19, 3) := by decide +kernel
theorem dX7_readLaw_84 : decode cX7_readLaw 84 = .ok (.getfield 143, 3) := by decide +kernel
theorem dX7_readLaw_87 : decode cX7_readLaw 87 = .ok (.iload_n 1, 1) := by decide +kernel
theorem dX7_readLaw_88 : decode cX7_readLaw 88 = .ok (.invokevirtual 155, 3) := by decide +kernel
theorem dX7_readLaw_91 : decode cX7_readLaw 91 = .ok (.return_, 1) := by decide +kernel
set_option maxRecDepth 20000 in
theorem ggX7_needRoom_X7_fail : GoodIn wsX7_needRoom wsX7_fail := goodIn_r _ [5, 6, 7, 8, 9, 10, 11, 12, 13, 14, 15, 16, 17, 18, 19, 20] rfl (by decide +kernel)
set_option maxRecDepth 20000 in
theorem gX7_needRoom_X7_fail : GoodIn wsX7_needRoom (wsV RX7 78 RX7 yX7_fail wsX7_fail) := goodIn_app (goodIn_r _ [1, 2, 3, 4] rfl (by decide +kernel)) ggX7_needRoom_X7_fail
theorem dX7_needRoom_0 : decode cX7_needRoom 0 = .ok (.iload_n 1, 1) := by decide +kernel
theorem dX7_needRoom_1 : decode cX7_needRoom 1 = .ok (.iload_n 2, 1) := by decide +kernel
theorem dX7_needRoom_2 : decode cX7_needRoom 2 = .ok (.if_icmp .lt 8, 3) := by decide +kernel
theorem dX7_needRoom_5 : decode cX7_needRoom 5 = .ok (.aload_n 0, 1) := by decide +kernel
theorem dX7_needRoom_6 : decode cX7_needRoom 6 = .ok (.iconst 2, 1) := by decide +kernel
theorem dX7_needRoom_7 : decode cX7_needRoom 7 = .ok (.invokevirtual 78, 3) := by decide +kernel
theorem dX7_needRoom_10 : decode cX7_needRoom 10 = .ok (.return_, 1) := by decide +kernel
set_option maxRecDepth 20000 in
theorem ggX7_needOnce_X7_fail : GoodIn wsX7_needOnce wsX7_fail := goodIn_r _ [6, 7, 8, 9, 10, 11, 12, 13, 14, 15, 16, 17, 18, 19, 20, 21] rfl (by decide +kernel)
set_option maxRecDepth 20000 in
theorem gX7_needOnce_X7_fail : GoodIn wsX7_needOnce (wsV RX7 78 RX7 yX7_fail wsX7_fail) := goodIn_app (goodIn_r _ [2, 3, 4, 5] rfl (by decide +kernel)) ggX7_needOnce_X7_fail
theorem dX7_needOnce_0 : decode cX7_needOnce 0 = .ok (.iconst 1, 1) := by decide +kernel
theorem dX7_needOnce_1 : decode cX7_needOnce 1 = .ok (.iload_n 1, 1) := by decide +kernel
theorem dX7_needOnce_2 : decode cX7_needOnce 2 = .ok (.ishl, 1) := by decide +kernel
theorem dX7_needOnce_3 : decode cX7_needOnce 3 = .ok (.istore_n 2, 1) := by decide +kernel
theorem dX7_needOnce_4 : decode cX7_needOnce 4 = .ok (.aload_n 0, 1) := by decide +kernel
theorem dX7_needOnce_5 : decode cX7_needOnce 5 = .ok (.getfield 32, 3) := by decide +kernel
theorem dX7_needOnce_8 : decode cX7_needOnce 8 = .ok (.iload_n 2, 1) := by decide +kernel
theorem dX7_needOnce_9 : decode cX7_needOnce 9 = .ok (.iand, 1) := by decide +kernel
theorem dX7_needOnce_10 : decode cX7_needOnce 10 = .ok (.ifCond .eq 8, 3) := by decide +kernel
theorem dX7_needOnce_13 : decode cX7_needOnce 13 = .ok (.aload_n 0, 1) := by decide +kernel
theorem dX7_needOnce_14 : decode cX7_needOnce 14 = .ok (.iconst 3, 1) := by decide +kernel
theorem dX7_needOnce_15 : decode cX7_needOnce 15 = .ok (.invokevirtual 78, 3) := by decide +kernel
theorem dX7_needOnce_18 : decode cX7_needOnce 18 = .ok (.aload_n 0, 1) := by decide +kernel
theorem dX7_needOnce_19 : decode cX7_needOnce 19 = .ok (.dup, 1) := by decide +kernel
theorem dX7_needOnce_20 : decode cX7_needOnce 20 = .ok (.getfield 32, 3) := by decide +kernel
theorem dX7_needOnce_23 : decode cX7_needOnce 23 = .ok (.iload_n 2, 1) := by decide +kernel
theorem dX7_needOnce_24 : decode cX7_needOnce 24 = .ok (.ior, 1) := by decide +kernel
theorem dX7_needOnce_25 : decode cX7_needOnce 25 = .ok (.putfield 32, 3) := by decide +kernel
theorem dX7_needOnce_28 : decode cX7_needOnce 28 = .ok (.return_, 1) := by decide +kernel
set_option maxRecDepth 20000 in
theorem ggX7_toldBay_X9_sortOf : GoodIn wsX7_toldBay wsX9_sortOf := goodIn_r _ [8, 9, 10, 42, 43, 44, 45, 46, 47, 48, 49, 50] rfl (by decide +kernel)
set_option maxRecDepth 20000 in
theorem gX7_toldBay_X9_sortOf : GoodIn wsX7_toldBay (wsV RX7 41 RX9 yX9_sortOf wsX9_sortOf) := goodIn_app (goodIn_r _ [4, 5, 6, 7] rfl (by decide +kernel)) ggX7_toldBay_X9_sortOf
set_option maxRecDepth 20000 in
theorem ggX7_toldBay_X7_fail : GoodIn wsX7_toldBay wsX7_fail := goodIn_r _ [15, 16, 2, 17, 30, 31, 32, 33, 34, 35, 36, 37, 38, 39, 40, 41] rfl (by decide +kernel)
set_option maxRecDepth 20000 in
theorem gX7_toldBay_X7_fail : GoodIn wsX7_toldBay (wsV RX7 78 RX7 yX7_fail wsX7_fail) := goodIn_app (goodIn_r _ [11, 12, 13, 14] rfl (by decide +kernel)) ggX7_toldBay_X7_fail
set_option maxRecDepth 20000 in
theorem ggX7_toldBay_X9_valueOf : GoodIn wsX7_toldBay wsX9_valueOf := goodIn_r _ [21, 9, 22, 42, 43, 44, 45, 46, 47, 48, 49, 50] rfl (by decide +kernel)
set_option maxRecDepth 20000 in
theorem gX7_toldBay_X9_valueOf : GoodIn wsX7_toldBay (wsV RX7 88 RX9 yX9_valueOf wsX9_valueOf) := goodIn_app (goodIn_r _ [18, 19, 20, 7] rfl (by decide +kernel)) ggX7_toldBay_X9_valueOf
set_option maxRecDepth 20000 in
theorem ggX7_toldBay_X0_find : GoodIn wsX7_toldBay wsX0_find := goodIn_r _ [27, 28, 29, 51, 52, 53, 54, 55, 56, 57, 58, 59, 60, 61, 62, 63, 64, 65] rfl (by decide +kernel)
set_option maxRecDepth 20000 in
theorem gX7_toldBay_X0_find : GoodIn wsX7_toldBay (wsV RX7 91 RX0 yX0_find wsX0_find) := goodIn_app (goodIn_r _ [23, 24, 25, 26] rfl (by decide +kernel)) ggX7_toldBay_X0_find
theorem dX7_toldBay_0 : decode cX7_toldBay 0 = .ok (.aload_n 0, 1) := by decide +kernel
theorem dX7_toldBay_1 : decode cX7_toldBay 1 = .ok (.getfield 15, 3) := by decide +kernel
theorem dX7_toldBay_4 : decode cX7_toldBay 4 = .ok (.aload_n 0, 1) := by decide +kernel
theorem dX7_toldBay_5 : decode cX7_toldBay 5 = .ok (.getfield 28, 3) := by decide +kernel
theorem dX7_toldBay_8 : decode cX7_toldBay 8 = .ok (.invokevirtual 41, 3) := by decide +kernel
theorem dX7_toldBay_11 : decode cX7_toldBay 11 = .ok (.iconst 2, 1) := by decide +kernel
theorem dX7_toldBay_12 : decode cX7_toldBay 12 = .ok (.if_icmp .eq 10, 3) := by decide +kernel
theorem dX7_toldBay_15 : decode cX7_toldBay 15 = .ok (.aload_n 0, 1) := by decide +kernel
theorem dX7_toldBay_16 : decode cX7_toldBay 16 = .ok (.iconst 1, 1) := by decide +kernel
theorem dX7_toldBay_17 : decode cX7_toldBay 17 = .ok (.invokevirtual 78, 3) := by decide +kernel
theorem dX7_toldBay_20 : decode cX7_toldBay 20 = .ok (.iconst (-1), 1) := by decide +kernel
theorem dX7_toldBay_21 : decode cX7_toldBay 21 = .ok (.ireturn, 1) := by decide +kernel
theorem dX7_toldBay_22 : decode cX7_toldBay 22 = .ok (.aload_n 0, 1) := by decide +kernel
theorem dX7_toldBay_23 : decode cX7_toldBay 23 = .ok (.getfield 19, 3) := by decide +kernel
theorem dX7_toldBay_26 : decode cX7_toldBay 26 = .ok (.aload_n 0, 1) := by decide +kernel
theorem dX7_toldBay_27 : decode cX7_toldBay 27 = .ok (.getfield 15, 3) := by decide +kernel
theorem dX7_toldBay_30 : decode cX7_toldBay 30 = .ok (.aload_n 0, 1) := by decide +kernel
theorem dX7_toldBay_31 : decode cX7_toldBay 31 = .ok (.getfield 28, 3) := by decide +kernel
theorem dX7_toldBay_34 : decode cX7_toldBay 34 = .ok (.invokevirtual 88, 3) := by decide +kernel
theorem dX7_toldBay_37 : decode cX7_toldBay 37 = .ok (.invokevirtual 91, 3) := by decide +kernel
theorem dX7_toldBay_40 : decode cX7_toldBay 40 = .ok (.istore_n 1, 1) := by decide +kernel
theorem dX7_toldBay_41 : decode cX7_toldBay 41 = .ok (.iload_n 1, 1) := by decide +kernel
theorem dX7_toldBay_42 : decode cX7_toldBay 42 = .ok (.iconst (-1), 1) := by decide +kernel
theorem dX7_toldBay_43 : decode cX7_toldBay 43 = .ok (.if_icmp .ne 8, 3) := by decide +kernel
theorem dX7_toldBay_46 : decode cX7_toldBay 46 = .ok (.aload_n 0, 1) := by decide +kernel
theorem dX7_toldBay_47 : decode cX7_toldBay 47 = .ok (.iconst 4, 1) := by decide +kernel
theorem dX7_toldBay_48 : decode cX7_toldBay 48 = .ok (.invokevirtual 78, 3) := by decide +kernel
theorem dX7_toldBay_51 : decode cX7_toldBay 51 = .ok (.iload_n 1, 1) := by decide +kernel
theorem dX7_toldBay_52 : decode cX7_toldBay 52 = .ok (.ireturn, 1) := by decide +kernel
set_option maxRecDepth 20000 in
theorem ggX7_takeNumber_X9_valueOf : GoodIn wsX7_takeNumber wsX9_valueOf := goodIn_r _ [7, 8, 9, 34, 35, 36, 37, 38, 39, 40, 41, 42] rfl (by decide +kernel)
set_option maxRecDepth 20000 in
theorem gX7_takeNumber_X9_valueOf : GoodIn wsX7_takeNumber (wsV RX7 88 RX9 yX9_valueOf wsX9_valueOf) := goodIn_app (goodIn_r _ [3, 4, 5, 6] rfl (by decide +kernel)) ggX7_takeNumber_X9_valueOf
set_option maxRecDepth 20000 in
theorem ggX7_takeNumber_X9_sortOf : GoodIn wsX7_takeNumber wsX9_sortOf := goodIn_r _ [13, 8, 14, 34, 35, 36, 37, 38, 39, 40, 41, 42] rfl (by decide +kernel)
set_option maxRecDepth 20000 in
theorem gX7_takeNumber_X9_sortOf : GoodIn wsX7_takeNumber (wsV RX7 41 RX9 yX9_sortOf wsX9_sortOf) := goodIn_app (goodIn_r _ [10, 11, 12, 6] rfl (by decide +kernel)) ggX7_takeNumber_X9_sortOf
set_option maxRecDepth 20000 in
theorem ggX7_takeNumber_X7_fail : GoodIn wsX7_takeNumber wsX7_fail := goodIn_r _ [19, 20, 2, 21, 22, 23, 24, 25, 26, 27, 28, 29, 30, 31, 32, 33] rfl (by decide +kernel)
set_option maxRecDepth 20000 in
theorem gX7_takeNumber_X7_fail : GoodIn wsX7_takeNumber (wsV RX7 78 RX7 yX7_fail wsX7_fail) := goodIn_app (goodIn_r _ [15, 16, 17, 18] rfl (by decide +kernel)) ggX7_takeNumber_X7_fail
theorem dX7_takeNumber_0 : decode cX7_takeNumber 0 = .ok (.aload_n 0, 1) := by decide +kernel
theorem dX7_takeNumber_1 : decode cX7_takeNumber 1 = .ok (.getfield 15, 3) := by decide +kernel
theorem dX7_takeNumber_4 : decode cX7_takeNumber 4 = .ok (.aload_n 0, 1) := by decide +kernel
theorem dX7_takeNumber_5 : decode cX7_takeNumber 5 = .ok (.getfield 28, 3) := by decide +kernel
theorem dX7_takeNumber_8 : decode cX7_takeNumber 8 = .ok (.invokevirtual 88, 3) := by decide +kernel
theorem dX7_takeNumber_11 : decode cX7_takeNumber 11 = .ok (.istore_n 3, 1) := by decide +kernel
theorem dX7_takeNumber_12 : decode cX7_takeNumber 12 = .ok (.aload_n 0, 1) := by decide +kernel
theorem dX7_takeNumber_13 : decode cX7_takeNumber 13 = .ok (.getfield 15, 3) := by decide +kernel
theorem dX7_takeNumber_16 : decode cX7_takeNumber 16 = .ok (.aload_n 0, 1) := by decide +kernel
theorem dX7_takeNumber_17 : decode cX7_takeNumber 17 = .ok (.getfield 28, 3) := by decide +kernel
theorem dX7_takeNumber_20 : decode cX7_takeNumber 20 = .ok (.invokevirtual 41, 3) := by decide +kernel
theorem dX7_takeNumber_23 : decode cX7_takeNumber 23 = .ok (.iconst 3, 1) := by decide +kernel
theorem dX7_takeNumber_24 : decode cX7_takeNumber 24 = .ok (.if_icmp .eq 11, 3) := by decide +kernel
theorem dX7_takeNumber_27 : decode cX7_takeNumber 27 = .ok (.aload_n 0, 1) := by decide +kernel
theorem dX7_takeNumber_28 : decode cX7_takeNumber 28 = .ok (.iconst 1, 1) := by decide +kernel
theorem dX7_takeNumber_29 : decode cX7_takeNumber 29 = .ok (.invokevirtual 78, 3) := by decide +kernel
theorem dX7_takeNumber_32 : decode cX7_takeNumber 32 = .ok (.goto 18, 3) := by decide +kernel
theorem dX7_takeNumber_35 : decode cX7_takeNumber 35 = .ok (.iload_n 3, 1) := by decide +kernel
theorem dX7_takeNumber_36 : decode cX7_takeNumber 36 = .ok (.iload_n 1, 1) := by decide +kernel
theorem dX7_takeNumber_37 : decode cX7_takeNumber 37 = .ok (.if_icmp .lt 8, 3) := by decide +kernel
theorem dX7_takeNumber_40 : decode cX7_takeNumber 40 = .ok (.iload_n 3, 1) := by decide +kernel
theorem dX7_takeNumber_41 : decode cX7_takeNumber 41 = .ok (.iload_n 2, 1) := by decide +kernel
theorem dX7_takeNumber_42 : decode cX7_takeNumber 42 = .ok (.if_icmp .le 8, 3) := by decide +kernel
theorem dX7_takeNumber_45 : decode cX7_takeNumber 45 = .ok (.aload_n 0, 1) := by decide +kernel
theorem dX7_takeNumber_46 : decode cX7_takeNumber 46 = .ok (.iconst 2, 1) := by decide +kernel
theorem dX7_takeNumber_47 : decode cX7_takeNumber 47 = .ok (.invokevirtual 78, 3) := by decide +kernel
theorem dX7_takeNumber_50 : decode cX7_takeNumber 50 = .ok (.aload_n 0, 1) := by decide +kernel
theorem dX7_takeNumber_51 : decode cX7_takeNumber 51 = .ok (.dup, 1) := by decide +kernel
theorem dX7_takeNumber_52 : decode cX7_takeNumber 52 = .ok (.getfield 28, 3) := by decide +kernel
theorem dX7_takeNumber_55 : decode cX7_takeNumber 55 = .ok (.iconst 1, 1) := by decide +kernel
theorem dX7_takeNumber_56 : decode cX7_takeNumber 56 = .ok (.iadd, 1) := by decide +kernel
theorem dX7_takeNumber_57 : decode cX7_takeNumber 57 = .ok (.putfield 28, 3) := by decide +kernel
theorem dX7_takeNumber_60 : decode cX7_takeNumber 60 = .ok (.iload_n 3, 1) := by decide +kernel
theorem dX7_takeNumber_61 : decode cX7_takeNumber 61 = .ok (.ireturn, 1) := by decide +kernel
set_option maxRecDepth 20000 in
theorem ggX7_readExpression_X9_sortOf : GoodIn wsX7_readExpression wsX9_sortOf := goodIn_r _ [12, 13, 14, 80, 81, 82, 83, 84, 85, 86, 87, 88] rfl (by decide +kernel)
set_option maxRecDepth 20000 in
theorem gX7_readExpression_X9_sortOf : GoodIn wsX7_readExpression (wsV RX7 41 RX9 yX9_sortOf wsX9_sortOf) := goodIn_app (goodIn_r _ [8, 9, 10, 11] rfl (by decide +kernel)) ggX7_readExpression_X9_sortOf
set_option maxRecDepth 20000 in
theorem ggX7_readExpression_X7_readOperand : GoodIn wsX7_readExpression wsX7_readOperand := goodIn_r _ [19, 6, 7, 20, 3, 2, 4, 21, 22, 23, 11, 24, 13, 25, 26, 27, 28, 18, 29, 5, 30, 31, 32, 33, 34, 35, 36, 37, 38, 39, 40, 41, 42, 43, 44, 45, 46, 47, 48, 49, 50, 51, 1, 52, 68, 69, 70, 71, 72, 73, 74, 75, 76, 77, 78, 79, 89, 90, 91, 92, 93, 94, 95, 96, 97, 98, 99, 100, 101, 102, 103, 80, 81, 82, 83, 84, 85, 86, 87, 88, 104, 105, 106, 107, 108, 109] rfl (by decide +kernel)
set_option maxRecDepth 20000 in
theorem gX7_readExpression_X7_readOperand : GoodIn wsX7_readExpression (wsV RX7 171 RX7 yX7_readOperand wsX7_readOperand) := goodIn_app (goodIn_r _ [15, 16, 17, 18] rfl (by decide +kernel)) ggX7_readExpression_X7_readOperand
set_option maxRecDepth 20000 in
theorem ggX7_readExpression_X7_closeOne : GoodIn wsX7_readExpression wsX7_closeOne := goodIn_r _ [56, 1, 2, 57, 58, 59, 18, 60, 52, 20, 61, 62, 63, 36, 37, 38, 39, 40, 41, 42, 43, 68, 69, 70, 71, 72, 73, 74, 75, 76, 77, 78, 79, 89, 90, 91, 92, 93, 94, 95, 96, 97, 98, 99, 100, 101, 102, 103, 104, 105, 106, 107, 108, 109] rfl (by decide +kernel)
set_option maxRecDepth 20000 in
theorem gX7_readExpression_X7_closeOne : GoodIn wsX7_readExpression (wsV RX7 174 RX7 yX7_closeOne wsX7_closeOne) := goodIn_app (goodIn_r _ [53, 54, 55, 18] rfl (by decide +kernel)) ggX7_readExpression_X7_closeOne
set_option maxRecDepth 20000 in
theorem ggX7_readExpression_X7_readOperator : GoodIn wsX7_readExpression wsX7_readOperator := goodIn_r _ [67, 1, 52, 3, 4, 61, 62, 18, 63, 26, 27, 28, 29, 5, 7, 30, 57, 58, 59, 60, 20, 36, 37, 38, 39, 40, 41, 42, 43, 31, 32, 33, 34, 35, 48, 49, 50, 51, 68, 69, 70, 71, 72, 73, 74, 75, 76, 77, 78, 79, 89, 90, 91, 92, 93, 94, 95, 96, 97, 98, 99, 100, 101, 102, 103, 104, 105, 106, 107, 108, 109] rfl (by decide +kernel)
set_option maxRecDepth 20000 in
theorem gX7_readExpression_X7_readOperator : GoodIn wsX7_readExpression (wsV RX7 177 RX7 yX7_readOperator wsX7_readOperator) := goodIn_app (goodIn_r _ [64, 65, 66, 18] rfl (by decide +kernel)) ggX7_readExpression_X7_readOperator
set_option maxRecDepth 20000 in
theorem ggX7_readExpression_X7_tellDownTo : GoodIn wsX7_readExpression wsX7_tellDownTo := goodIn_r _ [60, 1, 52, 20, 61, 62, 18, 63, 36, 37, 38, 39, 40, 41, 42, 43, 68, 69, 70, 71, 72, 73, 74, 75, 76, 77, 78, 79, 89, 90, 91, 92, 93, 94, 95, 96, 97, 98, 99, 100, 101, 102, 103, 104, 105, 106, 107, 108, 109] rfl (by decide +kernel)
set_option maxRecDepth 20000 in
theorem gX7_readExpression_X7_tellDownTo : GoodIn wsX7_readExpression (wsV RX7 180 RX7 yX7_tellDownTo wsX7_tellDownTo) := goodIn_app (goodIn_r _ [57, 58, 59, 18] rfl (by decide +kernel)) ggX7_readExpression_X7_tellDownTo
theorem dX7_readExpression_0 : decode cX7_readExpression 0 = .ok (.aload_n 0, 1) := by decide +kernel
theorem dX7_readExpression_1 : decode cX7_readExpression 1 = .ok (.iconst 0, 1) := by decide +kernel
theorem dX7_readExpression_2 : decode cX7_readExpression 2 = .ok (.putfield 158, 3) := by decide +kernel
theorem dX7_readExpression_5 : decode cX7_readExpression 5 = .ok (.aload_n 0, 1) := by decide +kernel
theorem dX7_readExpression_6 : decode cX7_readExpression 6 = .ok (.iconst 0, 1) := by decide +kernel
theorem dX7_readExpression_7 : decode cX7_readExpression 7 = .ok (.putfield 161, 3) := by decide +kernel
theorem dX7_readExpression_10 : decode cX7_readExpression 10 = .ok (.aload_n 0, 1) := by decide +kernel
theorem dX7_readExpression_11 : decode cX7_readExpression 11 = .ok (.iconst 1, 1) := by decide +kernel
theorem dX7_readExpression_12 : decode cX7_readExpression 12 = .ok (.putfield 164, 3) := by decide +kernel
theorem dX7_readExpression_15 : decode cX7_readExpression 15 = .ok (.aload_n 0, 1) := by decide +kernel
theorem dX7_readExpression_16 : decode cX7_readExpression 16 = .ok (.iconst 1, 1) := by decide +kernel
theorem dX7_readExpression_17 : decode cX7_readExpression 17 = .ok (.putfield 168, 3) := by decide +kernel
theorem dX7_readExpression_20 : decode cX7_readExpression 20 = .ok (.iconst 0, 1) := by decide +kernel
theorem dX7_readExpression_21 : decode cX7_readExpression 21 = .ok (.istore_n 1, 1) := by decide +kernel
theorem dX7_readExpression_22 : decode cX7_readExpression 22 = .ok (.iload_n 1, 1) := by decide +kernel
theorem dX7_readExpression_23 : decode cX7_readExpression 23 = .ok (.sipush 700, 3) := by decide +kernel
theorem dX7_readExpression_26 : decode cX7_readExpression 26 = .ok (.if_icmp .gt 101, 3) := by decide +kernel
theorem dX7_readExpression_29 : decode cX7_readExpression 29 = .ok (.aload_n 0, 1) := by decide +kernel
theorem dX7_readExpression_30 : decode cX7_readExpression 30 = .ok (.getfield 35, 3) := by decide +kernel
theorem dX7_readExpression_33 : decode cX7_readExpression 33 = .ok (.ifCond .ne 94, 3) := by decide +kernel
theorem dX7_readExpression_36 : decode cX7_readExpression 36 = .ok (.aload_n 0, 1) := by decide +kernel
theorem dX7_readExpression_37 : decode cX7_readExpression 37 = .ok (.getfield 15, 3) := by decide +kernel
theorem dX7_readExpression_40 : decode cX7_readExpression 40 = .ok (.aload_n 0, 1) := by decide +kernel
theorem dX7_readExpression_41 : decode cX7_readExpression 41 = .ok (.getfield 28, 3) := by decide +kernel
theorem dX7_readExpression_44 : decode cX7_readExpression 44 = .ok (.invokevirtual 41, 3) := by decide +kernel
theorem dX7_readExpression_47 : decode cX7_readExpression 47 = .ok (.istore_n 2, 1) := by decide +kernel
theorem dX7_readExpression_48 : decode cX7_readExpression 48 = .ok (.aload_n 0, 1) := by decide +kernel
theorem dX7_readExpression_49 : decode cX7_readExpression 49 = .ok (.getfield 164, 3) := by decide +kernel
theorem dX7_readExpression_52 : decode cX7_readExpression 52 = .ok (.ifCond .eq 11, 3) := by decide +kernel
theorem dX7_readExpression_55 : decode cX7_readExpression 55 = .ok (.aload_n 0, 1) := by decide +kernel
theorem dX7_readExpression_56 : decode cX7_readExpression 56 = .ok (.iload_n 2, 1) := by decide +kernel
theorem dX7_readExpression_57 : decode cX7_readExpression 57 = .ok (.invokevirtual 171, 3) := by decide +kernel
theorem dX7_readExpression_60 : decode cX7_readExpression 60 = .ok (.goto 44, 3) := by decide +kernel
theorem dX7_readExpression_63 : decode cX7_readExpression 63 = .ok (.iload_n 2, 1) := by decide +kernel
theorem dX7_readExpression_64 : decode cX7_readExpression 64 = .ok (.bipush 40, 2) := by decide +kernel
theorem dX7_readExpression_66 : decode cX7_readExpression 66 = .ok (.if_icmp .ne 13, 3) := by decide +kernel
theorem dX7_readExpression_69 : decode cX7_readExpression 69 = .ok (.aload_n 0, 1) := by decide +kernel
theorem dX7_readExpression_70 : decode cX7_readExpression 70 = .ok (.getfield 161, 3) := by decide +kernel
theorem dX7_readExpression_73 : decode cX7_readExpression 73 = .ok (.ifCond .ne 6, 3) := by decide +kernel
theorem dX7_readExpression_76 : decode cX7_readExpression 76 = .ok (.goto 51, 3) := by decide +kernel
theorem dX7_readExpression_79 : decode cX7_readExpression 79 = .ok (.iload_n 2, 1) := by decide +kernel
theorem dX7_readExpression_80 : decode cX7_readExpression 80 = .ok (.bipush 42, 2) := by decide +kernel
theorem dX7_readExpression_82 : decode cX7_readExpression 82 = .ok (.if_icmp .ne 17, 3) := by decide +kernel
theorem dX7_readExpression_85 : decode cX7_readExpression 85 = .ok (.aload_n 0, 1) := by decide +kernel
theorem dX7_readExpression_86 : decode cX7_readExpression 86 = .ok (.getfield 161, 3) := by decide +kernel
theorem dX7_readExpression_89 : decode cX7_readExpression 89 = .ok (.ifCond .le 10, 3) := by decide +kernel
theorem dX7_readExpression_92 : decode cX7_readExpression 92 = .ok (.aload_n 0, 1) := by decide +kernel
theorem dX7_readExpression_93 : decode cX7_readExpression 93 = .ok (.invokevirtual 174, 3) := by decide +kernel
theorem dX7_readExpression_96 : decode cX7_readExpression 96 = .ok (.goto 8, 3) := by decide +kernel
theorem dX7_readExpression_99 : decode cX7_readExpression 99 = .ok (.aload_n 0, 1) := by decide +kernel
theorem dX7_readExpression_100 : decode cX7_readExpression 100 = .ok (.iload_n 2, 1) := by decide +kernel
theorem dX7_readExpression_101 : decode cX7_readExpression 101 = .ok (.invokevirtual 177, 3) := by decide +kernel
theorem dX7_readExpression_104 : decode cX7_readExpression 104 = .ok (.aload_n 0, 1) := by decide +kernel
theorem dX7_readExpression_105 : decode cX7_readExpression 105 = .ok (.getfield 35, 3) := by decide +kernel
theorem dX7_readExpression_108 : decode cX7_readExpression 108 = .ok (.ifCond .ne 13, 3) := by decide +kernel
theorem dX7_readExpression_111 : decode cX7_readExpression 111 = .ok (.aload_n 0, 1) := by decide +kernel
theorem dX7_readExpression_112 : decode cX7_readExpression 112 = .ok (.dup, 1) := by decide +kernel
theorem dX7_readExpression_113 : decode cX7_readExpression 113 = .ok (.getfield 28, 3) := by decide +kernel
theorem dX7_readExpression_116 : decode cX7_readExpression 116 = .ok (.iconst 1, 1) := by decide +kernel
theorem dX7_readExpression_117 : decode cX7_readExpression 117 = .ok (.iadd, 1) := by decide +kernel
theorem dX7_readExpression_118 : decode cX7_readExpression 118 = .ok (.putfield 28, 3) := by decide +kernel
theorem dX7_readExpression_121 : decode cX7_readExpression 121 = .ok (.iinc 1 1, 3) := by decide +kernel
theorem dX7_readExpression_124 : decode cX7_readExpression 124 = .ok (.goto (-102), 3) := by decide +kernel
theorem dX7_readExpression_127 : decode cX7_readExpression 127 = .ok (.aload_n 0, 1) := by decide +kernel
theorem dX7_readExpression_128 : decode cX7_readExpression 128 = .ok (.iconst 0, 1) := by decide +kernel
theorem dX7_readExpression_129 : decode cX7_readExpression 129 = .ok (.invokevirtual 180, 3) := by decide +kernel
theorem dX7_readExpression_132 : decode cX7_readExpression 132 = .ok (.return_, 1) := by decide +kernel
set_option maxRecDepth 20000 in
theorem ggX7_readOperand_X9_valueOf : GoodIn wsX7_readOperand wsX9_valueOf := goodIn_r _ [11, 12, 13, 71, 72, 73, 74, 75, 76, 77, 78, 79] rfl (by decide +kernel)
set_option maxRecDepth 20000 in
theorem gX7_readOperand_X9_valueOf : GoodIn wsX7_readOperand (wsV RX7 88 RX9 yX9_valueOf wsX9_valueOf) := goodIn_app (goodIn_r _ [7, 8, 9, 10] rfl (by decide +kernel)) ggX7_readOperand_X9_valueOf
set_option maxRecDepth 20000 in
theorem ggX7_readOperand_X7_fail : GoodIn wsX7_readOperand wsX7_fail := goodIn_r _ [18, 19, 2, 20, 44, 45, 46, 47, 48, 49, 50, 51, 52, 53, 54, 55] rfl (by decide +kernel)
set_option maxRecDepth 20000 in
theorem gX7_readOperand_X7_fail : GoodIn wsX7_readOperand (wsV RX7 78 RX7 yX7_fail wsX7_fail) := goodIn_app (goodIn_r _ [14, 15, 16, 17] rfl (by decide +kernel)) ggX7_readOperand_X7_fail
set_option maxRecDepth 20000 in
theorem ggX7_readOperand_X7_countKnot : GoodIn wsX7_readOperand wsX7_countKnot := goodIn_r _ [24, 25, 14, 15, 16, 17, 18, 19, 2, 20, 44, 45, 46, 47, 48, 49, 50, 51, 52, 53, 54, 55] rfl (by decide +kernel)
set_option maxRecDepth 20000 in
theorem gX7_readOperand_X7_countKnot : GoodIn wsX7_readOperand (wsV RX7 183 RX7 yX7_countKnot wsX7_countKnot) := goodIn_app (goodIn_r _ [21, 22, 23, 17] rfl (by decide +kernel)) ggX7_readOperand_X7_countKnot
set_option maxRecDepth 20000 in
theorem ggX7_readOperand_X4_add : GoodIn wsX7_readOperand wsX4_add := goodIn_r _ [30, 31, 32, 33, 80, 81, 82, 83, 84, 85] rfl (by decide +kernel)
set_option maxRecDepth 20000 in
theorem gX7_readOperand_X4_add : GoodIn wsX7_readOperand (wsV RX7 186 RX4 yX4_add wsX4_add) := goodIn_app (goodIn_r _ [26, 27, 28, 29] rfl (by decide +kernel)) ggX7_readOperand_X4_add
set_option maxRecDepth 20000 in
theorem ggX7_readOperand_X7_needRoom : GoodIn wsX7_readOperand wsX7_needRoom := goodIn_r _ [37, 14, 15, 16, 17, 18, 19, 2, 20, 44, 45, 46, 47, 48, 49, 50, 51, 52, 53, 54, 55] rfl (by decide +kernel)
set_option maxRecDepth 20000 in
theorem gX7_readOperand_X7_needRoom : GoodIn wsX7_readOperand (wsV RX7 84 RX7 yX7_needRoom wsX7_needRoom) := goodIn_app (goodIn_r _ [34, 35, 36, 17] rfl (by decide +kernel)) ggX7_readOperand_X7_needRoom
set_option maxRecDepth 20000 in
theorem ggX7_readOperand_X7_letWait : GoodIn wsX7_readOperand wsX7_letWait := goodIn_r _ [41, 42, 43, 44, 45, 46, 47, 48, 49, 50, 51, 52, 53, 54, 55] rfl (by decide +kernel)
set_option maxRecDepth 20000 in
theorem gX7_readOperand_X7_letWait : GoodIn wsX7_readOperand (wsV RX7 189 RX7 yX7_letWait wsX7_letWait) := goodIn_app (goodIn_r _ [38, 39, 40, 17] rfl (by decide +kernel)) ggX7_readOperand_X7_letWait
theorem dX7_readOperand_0 : decode cX7_readOperand 0 = .ok (.iload_n 1, 1) := by decide +kernel
theorem dX7_readOperand_1 : decode cX7_readOperand 1 = .ok (.iconst 3, 1) := by decide +kernel
theorem dX7_readOperand_2 : decode cX7_readOperand 2 = .ok (.if_icmp .ne 59, 3) := by decide +kernel
theorem dX7_readOperand_5 : decode cX7_readOperand 5 = .ok (.aload_n 0, 1) := by decide +kernel
theorem dX7_readOperand_6 : decode cX7_readOperand 6 = .ok (.getfield 15, 3) := by decide +kernel
theorem dX7_readOperand_9 : decode cX7_readOperand 9 = .ok (.aload_n 0, 1) := by decide +kernel
theorem dX7_readOperand_10 : decode cX7_readOperand 10 = .ok (.getfield 28, 3) := by decide +kernel
theorem dX7_readOperand_13 : decode cX7_readOperand 13 = .ok (.invokevirtual 88, 3) := by decide +kernel
theorem dX7_readOperand_16 : decode cX7_readOperand 16 = .ok (.sipush 9999, 3) := by decide +kernel
theorem dX7_readOperand_19 : decode cX7_readOperand 19 = .ok (.if_icmp .le 8, 3) := by decide +kernel
theorem dX7_readOperand_22 : decode cX7_readOperand 22 = .ok (.aload_n 0, 1) := by decide +kernel
theorem dX7_readOperand_23 : decode cX7_readOperand 23 = .ok (.iconst 2, 1) := by decide +kernel
theorem dX7_readOperand_24 : decode cX7_readOperand 24 = .ok (.invokevirtual 78, 3) := by decide +kernel
theorem dX7_readOperand_27 : decode cX7_readOperand 27 = .ok (.aload_n 0, 1) := by decide +kernel
theorem dX7_readOperand_28 : decode cX7_readOperand 28 = .ok (.invokevirtual 183, 3) := by decide +kernel
theorem dX7_readOperand_31 : decode cX7_readOperand 31 = .ok (.aload_n 0, 1) := by decide +kernel
theorem dX7_readOperand_32 : decode cX7_readOperand 32 = .ok (.getfield 19, 3) := by decide +kernel
theorem dX7_readOperand_35 : decode cX7_readOperand 35 = .ok (.getfield 143, 3) := by decide +kernel
theorem dX7_readOperand_38 : decode cX7_readOperand 38 = .ok (.iconst 3, 1) := by decide +kernel
theorem dX7_readOperand_39 : decode cX7_readOperand 39 = .ok (.aload_n 0, 1) := by decide +kernel
theorem dX7_readOperand_40 : decode cX7_readOperand 40 = .ok (.getfield 15, 3) := by decide +kernel
theorem dX7_readOperand_43 : decode cX7_readOperand 43 = .ok (.aload_n 0, 1) := by decide +kernel
theorem dX7_readOperand_44 : decode cX7_readOperand 44 = .ok (.getfield 28, 3) := by decide +kernel
theorem dX7_readOperand_47 : decode cX7_readOperand 47 = .ok (.invokevirtual 88, 3) := by decide +kernel
theorem dX7_readOperand_50 : decode cX7_readOperand 50 = .ok (.invokevirtual 186, 3) := by decide +kernel
theorem dX7_readOperand_53 : decode cX7_readOperand 53 = .ok (.aload_n 0, 1) := by decide +kernel
theorem dX7_readOperand_54 : decode cX7_readOperand 54 = .ok (.iconst 0, 1) := by decide +kernel
theorem dX7_readOperand_55 : decode cX7_readOperand 55 = .ok (.putfield 164, 3) := by decide +kernel
theorem dX7_readOperand_58 : decode cX7_readOperand 58 = .ok (.goto 110, 3) := by decide +kernel
theorem dX7_readOperand_61 : decode cX7_readOperand 61 = .ok (.iload_n 1, 1) := by decide +kernel
theorem dX7_readOperand_62 : decode cX7_readOperand 62 = .ok (.bipush 25, 2) := by decide +kernel
theorem dX7_readOperand_64 : decode cX7_readOperand 64 = .ok (.if_icmp .lt 33, 3) := by decide +kernel
theorem dX7_readOperand_67 : decode cX7_readOperand 67 = .ok (.iload_n 1, 1) := by decide +kernel
theorem dX7_readOperand_68 : decode cX7_readOperand 68 = .ok (.bipush 31, 2) := by decide +kernel
theorem dX7_readOperand_70 : decode cX7_readOperand 70 = .ok (.if_icmp .gt 27, 3) := by decide +kernel
theorem dX7_readOperand_73 : decode cX7_readOperand 73 = .ok (.aload_n 0, 1) := by decide +kernel
theorem dX7_readOperand_74 : decode cX7_readOperand 74 = .ok (.invokevirtual 183, 3) := by decide +kernel
theorem dX7_readOperand_77 : decode cX7_readOperand 77 = .ok (.aload_n 0, 1) := by decide +kernel
theorem dX7_readOperand_78 : decode cX7_readOperand 78 = .ok (.getfield 19, 3) := by decide +kernel
theorem dX7_readOperand_81 : decode cX7_readOperand 81 = .ok (.getfield 143, 3) := by decide +kernel
theorem dX7_readOperand_84 : decode cX7_readOperand 84 = .ok (.iload_n 1, 1) := by decide +kernel
theorem dX7_readOperand_85 : decode cX7_readOperand 85 = .ok (.iconst 0, 1) := by decide +kernel
theorem dX7_readOperand_86 : decode cX7_readOperand 86 = .ok (.invokevirtual 186, 3) := by decide +kernel
theorem dX7_readOperand_89 : decode cX7_readOperand 89 = .ok (.aload_n 0, 1) := by decide +kernel
theorem dX7_readOperand_90 : decode cX7_readOperand 90 = .ok (.iconst 0, 1) := by decide +kernel
theorem dX7_readOperand_91 : decode cX7_readOperand 91 = .ok (.putfield 164, 3) := by decide +kernel
theorem dX7_readOperand_94 : decode cX7_readOperand 94 = .ok (.goto 74, 3) := by decide +kernel
theorem dX7_readOperand_97 : decode cX7_readOperand 97 = .ok (.iload_n 1, 1) := by decide +kernel
theorem dX7_readOperand_98 : decode cX7_readOperand 98 = .ok (.bipush 41, 2) := by decide +kernel
theorem dX7_readOperand_100 : decode cX7_readOperand 100 = .ok (.if_icmp .ne 37, 3) := by decide +kernel
theorem dX7_readOperand_103 : decode cX7_readOperand 103 = .ok (.aload_n 0, 1) := by decide +kernel
theorem dX7_readOperand_104 : decode cX7_readOperand 104 = .ok (.aload_n 0, 1) := by decide +kernel
theorem dX7_readOperand_105 : decode cX7_readOperand 105 = .ok (.getfield 161, 3) := by decide +kernel
theorem dX7_readOperand_108 : decode cX7_readOperand 108 = .ok (.bipush 8, 2) := by decide +kernel
theorem dX7_readOperand_110 : decode cX7_readOperand 110 = .ok (.invokevirtual 84, 3) := by decide +kernel
theorem dX7_readOperand_113 : decode cX7_readOperand 113 = .ok (.aload_n 0, 1) := by decide +kernel
theorem dX7_readOperand_114 : decode cX7_readOperand 114 = .ok (.dup, 1) := by decide +kernel
theorem dX7_readOperand_115 : decode cX7_readOperand 115 = .ok (.getfield 161, 3) := by decide +kernel
theorem dX7_readOperand_118 : decode cX7_readOperand 118 = .ok (.iconst 1, 1) := by decide +kernel
theorem dX7_readOperand_119 : decode cX7_readOperand 119 = .ok (.iadd, 1) := by decide +kernel
theorem dX7_readOperand_120 : decode cX7_readOperand 120 = .ok (.putfield 161, 3) := by decide +kernel
theorem dX7_readOperand_123 : decode cX7_readOperand 123 = .ok (.aload_n 0, 1) := by decide +kernel
theorem dX7_readOperand_124 : decode cX7_readOperand 124 = .ok (.bipush 41, 2) := by decide +kernel
theorem dX7_readOperand_126 : decode cX7_readOperand 126 = .ok (.invokevirtual 189, 3) := by decide +kernel
theorem dX7_readOperand_129 : decode cX7_readOperand 129 = .ok (.aload_n 0, 1) := by decide +kernel
theorem dX7_readOperand_130 : decode cX7_readOperand 130 = .ok (.iconst 1, 1) := by decide +kernel
theorem dX7_readOperand_131 : decode cX7_readOperand 131 = .ok (.putfield 168, 3) := by decide +kernel
theorem dX7_readOperand_134 : decode cX7_readOperand 134 = .ok (.goto 34, 3) := by decide +kernel
theorem dX7_readOperand_137 : decode cX7_readOperand 137 = .ok (.iload_n 1, 1) := by decide +kernel
theorem dX7_readOperand_138 : decode cX7_readOperand 138 = .ok (.bipush 24, 2) := by decide +kernel
theorem dX7_readOperand_140 : decode cX7_readOperand 140 = .ok (.if_icmp .ne 23, 3) := by decide +kernel
theorem dX7_readOperand_143 : decode cX7_readOperand 143 = .ok (.aload_n 0, 1) := by decide +kernel
theorem dX7_readOperand_144 : decode cX7_readOperand 144 = .ok (.getfield 168, 3) := by decide +kernel
theorem dX7_readOperand_147 : decode cX7_readOperand 147 = .ok (.ifCond .eq 16, 3) := by decide +kernel
theorem dX7_readOperand_150 : decode cX7_readOperand 150 = .ok (.aload_n 0, 1) := by decide +kernel
theorem dX7_readOperand_151 : decode cX7_readOperand 151 = .ok (.invokevirtual 183, 3) := by decide +kernel
theorem dX7_readOperand_154 : decode cX7_readOperand 154 = .ok (.aload_n 0, 1) := by decide +kernel
theorem dX7_readOperand_155 : decode cX7_readOperand 155 = .ok (.bipush 24, 2) := by decide +kernel
theorem dX7_readOperand_157 : decode cX7_readOperand 157 = .ok (.invokevirtual 189, 3) := by decide +kernel
theorem dX7_readOperand_160 : decode cX7_readOperand 160 = .ok (.goto 8, 3) := by decide +kernel
theorem dX7_readOperand_163 : decode cX7_readOperand 163 = .ok (.aload_n 0, 1) := by decide +kernel
theorem dX7_readOperand_164 : decode cX7_readOperand 164 = .ok (.iconst 1, 1) := by decide +kernel
theorem dX7_readOperand_165 : decode cX7_readOperand 165 = .ok (.invokevirtual 78, 3) := by decide +kernel
theorem dX7_readOperand_168 : decode cX7_readOperand 168 = .ok (.return_, 1) := by decide +kernel
set_option maxRecDepth 20000 in
theorem ggX7_readOperator_X7_rankOf : GoodIn wsX7_readOperator wsX7_rankOf := goodIn_r _ [8] rfl (by decide +kernel)
set_option maxRecDepth 20000 in
theorem gX7_readOperator_X7_rankOf : GoodIn wsX7_readOperator (va_wsS RX7 192 yX7_rankOf wsX7_rankOf) := goodIn_app (goodIn_of _ (by decide +kernel)) ggX7_readOperator_X7_rankOf
set_option maxRecDepth 20000 in
theorem ggX7_readOperator_X7_fail : GoodIn wsX7_readOperator wsX7_fail := goodIn_r _ [12, 13, 14, 15, 38, 39, 40, 41, 42, 43, 44, 45, 46, 47, 48, 49] rfl (by decide +kernel)
set_option maxRecDepth 20000 in
theorem gX7_readOperator_X7_fail : GoodIn wsX7_readOperator (wsV RX7 78 RX7 yX7_fail wsX7_fail) := goodIn_app (goodIn_r _ [9, 10, 11, 7] rfl (by decide +kernel)) ggX7_readOperator_X7_fail
set_option maxRecDepth 20000 in
theorem ggX7_readOperator_X7_tellDownTo : GoodIn wsX7_readOperator wsX7_tellDownTo := goodIn_r _ [19, 1, 2, 20, 5, 6, 7, 8, 21, 22, 23, 24, 25, 26, 27, 28, 38, 39, 40, 41, 42, 43, 44, 45, 46, 47, 48, 49, 50, 51, 52, 53, 54, 55, 56, 57, 58, 59, 60, 61, 62, 63, 64, 65, 66, 67, 68, 69, 70] rfl (by decide +kernel)
set_option maxRecDepth 20000 in
theorem gX7_readOperator_X7_tellDownTo : GoodIn wsX7_readOperator (wsV RX7 180 RX7 yX7_tellDownTo wsX7_tellDownTo) := goodIn_app (goodIn_r _ [16, 17, 18, 7] rfl (by decide +kernel)) ggX7_readOperator_X7_tellDownTo
set_option maxRecDepth 20000 in
theorem ggX7_readOperator_X7_countKnot : GoodIn wsX7_readOperator wsX7_countKnot := goodIn_r _ [32, 33, 9, 10, 11, 7, 12, 13, 14, 15, 38, 39, 40, 41, 42, 43, 44, 45, 46, 47, 48, 49] rfl (by decide +kernel)
set_option maxRecDepth 20000 in
theorem gX7_readOperator_X7_countKnot : GoodIn wsX7_readOperator (wsV RX7 183 RX7 yX7_countKnot wsX7_countKnot) := goodIn_app (goodIn_r _ [29, 30, 31, 7] rfl (by decide +kernel)) ggX7_readOperator_X7_countKnot
set_option maxRecDepth 20000 in
theorem ggX7_readOperator_X7_letWait : GoodIn wsX7_readOperator wsX7_letWait := goodIn_r _ [37, 1, 2, 38, 39, 40, 41, 42, 43, 44, 45, 46, 47, 48, 49] rfl (by decide +kernel)
set_option maxRecDepth 20000 in
theorem gX7_readOperator_X7_letWait : GoodIn wsX7_readOperator (wsV RX7 189 RX7 yX7_letWait wsX7_letWait) := goodIn_app (goodIn_r _ [34, 35, 36, 7] rfl (by decide +kernel)) ggX7_readOperator_X7_letWait
theorem dX7_readOperator_0 : decode cX7_readOperator 0 = .ok (.iload_n 1, 1) := by decide +kernel
theorem dX7_readOperator_1 : decode cX7_readOperator 1 = .ok (.invokestatic 192, 3) := by decide +kernel
theorem dX7_readOperator_4 : decode cX7_readOperator 4 = .ok (.istore_n 2, 1) := by decide +kernel
theorem dX7_readOperator_5 : decode cX7_readOperator 5 = .ok (.iload_n 2, 1) := by decide +kernel
theorem dX7_readOperator_6 : decode cX7_readOperator 6 = .ok (.ifCond .eq 9, 3) := by decide +kernel
theorem dX7_readOperator_9 : decode cX7_readOperator 9 = .ok (.iload_n 1, 1) := by decide +kernel
theorem dX7_readOperator_10 : decode cX7_readOperator 10 = .ok (.bipush 24, 2) := by decide +kernel
theorem dX7_readOperator_12 : decode cX7_readOperator 12 = .ok (.if_icmp .ne 9, 3) := by decide +kernel
theorem dX7_readOperator_15 : decode cX7_readOperator 15 = .ok (.aload_n 0, 1) := by decide +kernel
theorem dX7_readOperator_16 : decode cX7_readOperator 16 = .ok (.iconst 1, 1) := by decide +kernel
theorem dX7_readOperator_17 : decode cX7_readOperator 17 = .ok (.invokevirtual 78, 3) := by decide +kernel
theorem dX7_readOperator_20 : decode cX7_readOperator 20 = .ok (.return_, 1) := by decide +kernel
theorem dX7_readOperator_21 : decode cX7_readOperator 21 = .ok (.iload_n 2, 1) := by decide +kernel
theorem dX7_readOperator_22 : decode cX7_readOperator 22 = .ok (.bipush 49, 2) := by decide +kernel
theorem dX7_readOperator_24 : decode cX7_readOperator 24 = .ok (.invokestatic 192, 3) := by decide +kernel
theorem dX7_readOperator_27 : decode cX7_readOperator 27 = .ok (.if_icmp .ne 7, 3) := by decide +kernel
theorem dX7_readOperator_30 : decode cX7_readOperator 30 = .ok (.iconst 1, 1) := by decide +kernel
theorem dX7_readOperator_31 : decode cX7_readOperator 31 = .ok (.goto 4, 3) := by decide +kernel
theorem dX7_readOperator_34 : decode cX7_readOperator 34 = .ok (.iconst 0, 1) := by decide +kernel
theorem dX7_readOperator_35 : decode cX7_readOperator 35 = .ok (.istore_n 3, 1) := by decide +kernel
theorem dX7_readOperator_36 : decode cX7_readOperator 36 = .ok (.aload_n 0, 1) := by decide +kernel
theorem dX7_readOperator_37 : decode cX7_readOperator 37 = .ok (.iload_n 3, 1) := by decide +kernel
theorem dX7_readOperator_38 : decode cX7_readOperator 38 = .ok (.ifCond .eq 9, 3) := by decide +kernel
theorem dX7_readOperator_41 : decode cX7_readOperator 41 = .ok (.iload_n 2, 1) := by decide +kernel
theorem dX7_readOperator_42 : decode cX7_readOperator 42 = .ok (.iconst 1, 1) := by decide +kernel
theorem dX7_readOperator_43 : decode cX7_readOperator 43 = .ok (.iadd, 1) := by decide +kernel
theorem dX7_readOperator_44 : decode cX7_readOperator 44 = .ok (.goto 4, 3) := by decide +kernel
theorem dX7_readOperator_47 : decode cX7_readOperator 47 = .ok (.iload_n 2, 1) := by decide +kernel
theorem dX7_readOperator_48 : decode cX7_readOperator 48 = .ok (.invokevirtual 180, 3) := by decide +kernel
theorem dX7_readOperator_51 : decode cX7_readOperator 51 = .ok (.iload_n 3, 1) := by decide +kernel
theorem dX7_readOperator_52 : decode cX7_readOperator 52 = .ok (.ifCond .eq 34, 3) := by decide +kernel
theorem dX7_readOperator_55 : decode cX7_readOperator 55 = .ok (.aload_n 0, 1) := by decide +kernel
theorem dX7_readOperator_56 : decode cX7_readOperator 56 = .ok (.getfield 158, 3) := by decide +kernel
theorem dX7_readOperator_59 : decode cX7_readOperator 59 = .ok (.ifCond .le 27, 3) := by decide +kernel
theorem dX7_readOperator_62 : decode cX7_readOperator 62 = .ok (.aload_n 0, 1) := by decide +kernel
theorem dX7_readOperator_63 : decode cX7_readOperator 63 = .ok (.getfield 9, 3) := by decide +kernel
theorem dX7_readOperator_66 : decode cX7_readOperator 66 = .ok (.aload_n 0, 1) := by decide +kernel
theorem dX7_readOperator_67 : decode cX7_readOperator 67 = .ok (.getfield 158, 3) := by decide +kernel
theorem dX7_readOperator_70 : decode cX7_readOperator 70 = .ok (.iconst 1, 1) := by decide +kernel
theorem dX7_readOperator_71 : decode cX7_readOperator 71 = .ok (.isub, 1) := by decide +kernel
theorem dX7_readOperator_72 : decode cX7_readOperator 72 = .ok (.iaload, 1) := by decide +kernel
theorem dX7_readOperator_73 : decode cX7_readOperator 73 = .ok (.invokestatic 192, 3) := by decide +kernel
theorem dX7_readOperator_76 : decode cX7_readOperator 76 = .ok (.iload_n 2, 1) := by decide +kernel
theorem dX7_readOperator_77 : decode cX7_readOperator 77 = .ok (.if_icmp .ne 9, 3) := by decide +kernel
theorem dX7_readOperator_80 : decode cX7_readOperator 80 = .ok (.aload_n 0, 1) := by decide +kernel
theorem dX7_readOperator_81 : decode cX7_readOperator 81 = .ok (.iconst 1, 1) := by decide +kernel
theorem dX7_readOperator_82 : decode cX7_readOperator 82 = .ok (.invokevirtual 78, 3) := by decide +kernel
theorem dX7_readOperator_85 : decode cX7_readOperator 85 = .ok (.return_, 1) := by decide +kernel
theorem dX7_readOperator_86 : decode cX7_readOperator 86 = .ok (.aload_n 0, 1) := by decide +kernel
theorem dX7_readOperator_87 : decode cX7_readOperator 87 = .ok (.invokevirtual 183, 3) := by decide +kernel
theorem dX7_readOperator_90 : decode cX7_readOperator 90 = .ok (.aload_n 0, 1) := by decide +kernel
theorem dX7_readOperator_91 : decode cX7_readOperator 91 = .ok (.iload_n 1, 1) := by decide +kernel
theorem dX7_readOperator_92 : decode cX7_readOperator 92 = .ok (.invokevirtual 189, 3) := by decide +kernel
theorem dX7_readOperator_95 : decode cX7_readOperator 95 = .ok (.aload_n 0, 1) := by decide +kernel
theorem dX7_readOperator_96 : decode cX7_readOperator 96 = .ok (.iconst 1, 1) := by decide +kernel
theorem dX7_readOperator_97 : decode cX7_readOperator 97 = .ok (.putfield 164, 3) := by decide +kernel
theorem dX7_readOperator_100 : decode cX7_readOperator 100 = .ok (.aload_n 0, 1) := by decide +kernel
theorem dX7_readOperator_101 : decode cX7_readOperator 101 = .ok (.iload_n 1, 1) := by decide +kernel
theorem dX7_readOperator_102 : decode cX7_readOperator 102 = .ok (.bipush 22, 2) := by decide +kernel
theorem dX7_readOperator_104 : decode cX7_readOperator 104 = .ok (.if_icmp .eq 9, 3) := by decide +kernel
theorem dX7_readOperator_107 : decode cX7_readOperator 107 = .ok (.iload_n 1, 1) := by decide +kernel
theorem dX7_readOperator_108 : decode cX7_readOperator 108 = .ok (.bipush 23, 2) := by decide +kernel
theorem dX7_readOperator_110 : decode cX7_readOperator 110 = .ok (.if_icmp .ne 7, 3) := by decide +kernel
theorem dX7_readOperator_113 : decode cX7_readOperator 113 = .ok (.iconst 1, 1) := by decide +kernel
theorem dX7_readOperator_114 : decode cX7_readOperator 114 = .ok (.goto 4, 3) := by decide +kernel
theorem dX7_readOperator_117 : decode cX7_readOperator 117 = .ok (.iconst 0, 1) := by decide +kernel
theorem dX7_readOperator_118 : decode cX7_readOperator 118 = .ok (.putfield 168, 3) := by decide +kernel
theorem dX7_readOperator_121 : decode cX7_readOperator 121 = .ok (.return_, 1) := by decide +kernel
set_option maxRecDepth 20000 in
theorem ggX7_closeOne_X7_tellDownTo : GoodIn wsX7_closeOne wsX7_tellDownTo := goodIn_r _ [7, 1, 8, 9, 10, 11, 6, 12, 13, 14, 15, 16, 17, 18, 19, 20, 21, 22, 23, 24, 25, 26, 27, 28, 29, 30, 31, 32, 33, 34, 35, 36, 37, 38, 39, 40, 41, 42, 43, 44, 45, 46, 47, 48, 49, 50, 51, 52, 53] rfl (by decide +kernel)
set_option maxRecDepth 20000 in
theorem gX7_closeOne_X7_tellDownTo : GoodIn wsX7_closeOne (wsV RX7 180 RX7 yX7_tellDownTo wsX7_tellDownTo) := goodIn_app (goodIn_r _ [3, 4, 5, 6] rfl (by decide +kernel)) ggX7_closeOne_X7_tellDownTo
theorem dX7_closeOne_0 : decode cX7_closeOne 0 = .ok (.aload_n 0, 1) := by decide +kernel
theorem dX7_closeOne_1 : decode cX7_closeOne 1 = .ok (.iconst 1, 1) := by decide +kernel
theorem dX7_closeOne_2 : decode cX7_closeOne 2 = .ok (.invokevirtual 180, 3) := by decide +kernel
theorem dX7_closeOne_5 : decode cX7_closeOne 5 = .ok (.aload_n 0, 1) := by decide +kernel
theorem dX7_closeOne_6 : decode cX7_closeOne 6 = .ok (.getfield 158, 3) := by decide +kernel
theorem dX7_closeOne_9 : decode cX7_closeOne 9 = .ok (.ifCond .le 13, 3) := by decide +kernel
theorem dX7_closeOne_12 : decode cX7_closeOne 12 = .ok (.aload_n 0, 1) := by decide +kernel
theorem dX7_closeOne_13 : decode cX7_closeOne 13 = .ok (.dup, 1) := by decide +kernel
theorem dX7_closeOne_14 : decode cX7_closeOne 14 = .ok (.getfield 158, 3) := by decide +kernel
theorem dX7_closeOne_17 : decode cX7_closeOne 17 = .ok (.iconst 1, 1) := by decide +kernel
theorem dX7_closeOne_18 : decode cX7_closeOne 18 = .ok (.isub, 1) := by decide +kernel
theorem dX7_closeOne_19 : decode cX7_closeOne 19 = .ok (.putfield 158, 3) := by decide +kernel
theorem dX7_closeOne_22 : decode cX7_closeOne 22 = .ok (.aload_n 0, 1) := by decide +kernel
theorem dX7_closeOne_23 : decode cX7_closeOne 23 = .ok (.dup, 1) := by decide +kernel
theorem dX7_closeOne_24 : decode cX7_closeOne 24 = .ok (.getfield 161, 3) := by decide +kernel
theorem dX7_closeOne_27 : decode cX7_closeOne 27 = .ok (.iconst 1, 1) := by decide +kernel
theorem dX7_closeOne_28 : decode cX7_closeOne 28 = .ok (.isub, 1) := by decide +kernel
theorem dX7_closeOne_29 : decode cX7_closeOne 29 = .ok (.putfield 161, 3) := by decide +kernel
theorem dX7_closeOne_32 : decode cX7_closeOne 32 = .ok (.return_, 1) := by decide +kernel
set_option maxRecDepth 20000 in
theorem ggX7_tellDownTo_X7_rankOf : GoodIn wsX7_tellDownTo wsX7_rankOf := goodIn_r _ [7] rfl (by decide +kernel)
set_option maxRecDepth 20000 in
theorem gX7_tellDownTo_X7_rankOf : GoodIn wsX7_tellDownTo (va_wsS RX7 192 yX7_rankOf wsX7_rankOf) := goodIn_app (goodIn_of _ (by decide +kernel)) ggX7_tellDownTo_X7_rankOf
set_option maxRecDepth 20000 in
theorem ggX7_tellDownTo_X4_add : GoodIn wsX7_tellDownTo wsX4_add := goodIn_r _ [12, 13, 14, 15, 43, 44, 45, 46, 47, 48] rfl (by decide +kernel)
set_option maxRecDepth 20000 in
theorem gX7_tellDownTo_X4_add : GoodIn wsX7_tellDownTo (wsV RX7 186 RX4 yX4_add wsX4_add) := goodIn_app (goodIn_r _ [8, 9, 10, 11] rfl (by decide +kernel)) ggX7_tellDownTo_X4_add
theorem dX7_tellDownTo_0 : decode cX7_tellDownTo 0 = .ok (.aload_n 0, 1) := by decide +kernel
theorem dX7_tellDownTo_1 : decode cX7_tellDownTo 1 = .ok (.getfield 158, 3) := by decide +kernel
theorem dX7_tellDownTo_4 : decode cX7_tellDownTo 4 = .ok (.ifCond .le 70, 3) := by decide +kernel
theorem dX7_tellDownTo_7 : decode cX7_tellDownTo 7 = .ok (.aload_n 0, 1) := by decide +kernel
theorem dX7_tellDownTo_8 : decode cX7_tellDownTo 8 = .ok (.getfield 9, 3) := by decide +kernel
theorem dX7_tellDownTo_11 : decode cX7_tellDownTo 11 = .ok (.aload_n 0, 1) := by decide +kernel
theorem dX7_tellDownTo_12 : decode cX7_tellDownTo 12 = .ok (.getfield 158, 3) := by decide +kernel
theorem dX7_tellDownTo_15 : decode cX7_tellDownTo 15 = .ok (.iconst 1, 1) := by decide +kernel
theorem dX7_tellDownTo_16 : decode cX7_tellDownTo 16 = .ok (.isub, 1) := by decide +kernel
theorem dX7_tellDownTo_17 : decode cX7_tellDownTo 17 = .ok (.iaload, 1) := by decide +kernel
theorem dX7_tellDownTo_18 : decode cX7_tellDownTo 18 = .ok (.bipush 41, 2) := by decide +kernel
theorem dX7_tellDownTo_20 : decode cX7_tellDownTo 20 = .ok (.if_icmp .eq 54, 3) := by decide +kernel
theorem dX7_tellDownTo_23 : decode cX7_tellDownTo 23 = .ok (.aload_n 0, 1) := by decide +kernel
theorem dX7_tellDownTo_24 : decode cX7_tellDownTo 24 = .ok (.getfield 9, 3) := by decide +kernel
theorem dX7_tellDownTo_27 : decode cX7_tellDownTo 27 = .ok (.aload_n 0, 1) := by decide +kernel
theorem dX7_tellDownTo_28 : decode cX7_tellDownTo 28 = .ok (.getfield 158, 3) := by decide +kernel
theorem dX7_tellDownTo_31 : decode cX7_tellDownTo 31 = .ok (.iconst 1, 1) := by decide +kernel
theorem dX7_tellDownTo_32 : decode cX7_tellDownTo 32 = .ok (.isub, 1) := by decide +kernel
theorem dX7_tellDownTo_33 : decode cX7_tellDownTo 33 = .ok (.iaload, 1) := by decide +kernel
theorem dX7_tellDownTo_34 : decode cX7_tellDownTo 34 = .ok (.invokestatic 192, 3) := by decide +kernel
theorem dX7_tellDownTo_37 : decode cX7_tellDownTo 37 = .ok (.iload_n 1, 1) := by decide +kernel
theorem dX7_tellDownTo_38 : decode cX7_tellDownTo 38 = .ok (.if_icmp .lt 36, 3) := by decide +kernel
theorem dX7_tellDownTo_41 : decode cX7_tellDownTo 41 = .ok (.aload_n 0, 1) := by decide +kernel
theorem dX7_tellDownTo_42 : decode cX7_tellDownTo 42 = .ok (.dup, 1) := by decide +kernel
theorem dX7_tellDownTo_43 : decode cX7_tellDownTo 43 = .ok (.getfield 158, 3) := by decide +kernel
theorem dX7_tellDownTo_46 : decode cX7_tellDownTo 46 = .ok (.iconst 1, 1) := by decide +kernel
theorem dX7_tellDownTo_47 : decode cX7_tellDownTo 47 = .ok (.isub, 1) := by decide +kernel
theorem dX7_tellDownTo_48 : decode cX7_tellDownTo 48 = .ok (.putfield 158, 3) := by decide +kernel
theorem dX7_tellDownTo_51 : decode cX7_tellDownTo 51 = .ok (.aload_n 0, 1) := by decide +kernel
theorem dX7_tellDownTo_52 : decode cX7_tellDownTo 52 = .ok (.getfield 19, 3) := by decide +kernel
theorem dX7_tellDownTo_55 : decode cX7_tellDownTo 55 = .ok (.getfield 143, 3) := by decide +kernel
theorem dX7_tellDownTo_58 : decode cX7_tellDownTo 58 = .ok (.aload_n 0, 1) := by decide +kernel
theorem dX7_tellDownTo_59 : decode cX7_tellDownTo 59 = .ok (.getfield 9, 3) := by decide +kernel
theorem dX7_tellDownTo_62 : decode cX7_tellDownTo 62 = .ok (.aload_n 0, 1) := by decide +kernel
theorem dX7_tellDownTo_63 : decode cX7_tellDownTo 63 = .ok (.getfield 158, 3) := by decide +kernel
theorem dX7_tellDownTo_66 : decode cX7_tellDownTo 66 = .ok (.iaload, 1) := by decide +kernel
theorem dX7_tellDownTo_67 : decode cX7_tellDownTo 67 = .ok (.iconst 0, 1) := by decide +kernel
theorem dX7_tellDownTo_68 : decode cX7_tellDownTo 68 = .ok (.invokevirtual 186, 3) := by decide +kernel
theorem dX7_tellDownTo_71 : decode cX7_tellDownTo 71 = .ok (.goto (-71), 3) := by decide +kernel
theorem dX7_tellDownTo_74 : decode cX7_tellDownTo 74 = .ok (.return_, 1) := by decide +kernel
set_option maxRecDepth 20000 in
theorem ggX7_countKnot_X7_fail : GoodIn wsX7_countKnot wsX7_fail := goodIn_r _ [6, 7, 8, 9, 10, 11, 12, 13, 14, 15, 16, 17, 18, 19, 20, 21] rfl (by decide +kernel)
set_option maxRecDepth 20000 in
theorem gX7_countKnot_X7_fail : GoodIn wsX7_countKnot (wsV RX7 78 RX7 yX7_fail wsX7_fail) := goodIn_app (goodIn_r _ [2, 3, 4, 5] rfl (by decide +kernel)) ggX7_countKnot_X7_fail
theorem dX7_countKnot_0 : decode cX7_countKnot 0 = .ok (.aload_n 0, 1) := by decide +kernel
theorem dX7_countKnot_1 : decode cX7_countKnot 1 = .ok (.getfield 38, 3) := by decide +kernel
theorem dX7_countKnot_4 : decode cX7_countKnot 4 = .ok (.bipush 64, 2) := by decide +kernel
theorem dX7_countKnot_6 : decode cX7_countKnot 6 = .ok (.if_icmp .lt 8, 3) := by decide +kernel
theorem dX7_countKnot_9 : decode cX7_countKnot 9 = .ok (.aload_n 0, 1) := by decide +kernel
theorem dX7_countKnot_10 : decode cX7_countKnot 10 = .ok (.iconst 2, 1) := by decide +kernel
theorem dX7_countKnot_11 : decode cX7_countKnot 11 = .ok (.invokevirtual 78, 3) := by decide +kernel
theorem dX7_countKnot_14 : decode cX7_countKnot 14 = .ok (.aload_n 0, 1) := by decide +kernel
theorem dX7_countKnot_15 : decode cX7_countKnot 15 = .ok (.dup, 1) := by decide +kernel
theorem dX7_countKnot_16 : decode cX7_countKnot 16 = .ok (.getfield 38, 3) := by decide +kernel
theorem dX7_countKnot_19 : decode cX7_countKnot 19 = .ok (.iconst 1, 1) := by decide +kernel
theorem dX7_countKnot_20 : decode cX7_countKnot 20 = .ok (.iadd, 1) := by decide +kernel
theorem dX7_countKnot_21 : decode cX7_countKnot 21 = .ok (.putfield 38, 3) := by decide +kernel
theorem dX7_countKnot_24 : decode cX7_countKnot 24 = .ok (.return_, 1) := by decide +kernel
theorem dX7_letWait_0 : decode cX7_letWait 0 = .ok (.aload_n 0, 1) := by decide +kernel
theorem dX7_letWait_1 : decode cX7_letWait 1 = .ok (.getfield 158, 3) := by decide +kernel
theorem dX7_letWait_4 : decode cX7_letWait 4 = .ok (.aload_n 0, 1) := by decide +kernel
theorem dX7_letWait_5 : decode cX7_letWait 5 = .ok (.getfield 9, 3) := by decide +kernel
theorem dX7_letWait_8 : decode cX7_letWait 8 = .ok (.arraylength, 1) := by decide +kernel
theorem dX7_letWait_9 : decode cX7_letWait 9 = .ok (.if_icmp .ge 23, 3) := by decide +kernel
theorem dX7_letWait_12 : decode cX7_letWait 12 = .ok (.aload_n 0, 1) := by decide +kernel
theorem dX7_letWait_13 : decode cX7_letWait 13 = .ok (.getfield 9, 3) := by decide +kernel
theorem dX7_letWait_16 : decode cX7_letWait 16 = .ok (.aload_n 0, 1) := by decide +kernel
theorem dX7_letWait_17 : decode cX7_letWait 17 = .ok (.getfield 158, 3) := by decide +kernel
theorem dX7_letWait_20 : decode cX7_letWait 20 = .ok (.iload_n 1, 1) := by decide +kernel
theorem dX7_letWait_21 : decode cX7_letWait 21 = .ok (.iastore, 1) := by decide +kernel
theorem dX7_letWait_22 : decode cX7_letWait 22 = .ok (.aload_n 0, 1) := by decide +kernel
theorem dX7_letWait_23 : decode cX7_letWait 23 = .ok (.dup, 1) := by decide +kernel
theorem dX7_letWait_24 : decode cX7_letWait 24 = .ok (.getfield 158, 3) := by decide +kernel
theorem dX7_letWait_27 : decode cX7_letWait 27 = .ok (.iconst 1, 1) := by decide +kernel
theorem dX7_letWait_28 : decode cX7_letWait 28 = .ok (.iadd, 1) := by decide +kernel
theorem dX7_letWait_29 : decode cX7_letWait 29 = .ok (.putfield 158, 3) := by decide +kernel
theorem dX7_letWait_32 : decode cX7_letWait 32 = .ok (.return_, 1) := by decide +kernel
theorem dX7_rankOf_0 : decode cX7_rankOf 0 = .ok (.iload_n 0, 1) := by decide +kernel
theorem dX7_rankOf_1 : decode cX7_rankOf 1 = .ok (.tableswitch 152 22 52 #[139, 141, 143, 152, 152, 152, 152, 152, 152, 152, 152, 152, 152, 152, 152, 152, 152, 152, 152, 152, 152, 147, 147, 149, 149, 145, 145, 145, 145, 145, 145], 139) := by decide +kernel
theorem dX7_rankOf_140 : decode cX7_rankOf 140 = .ok (.iconst 1, 1) := by decide +kernel
theorem dX7_rankOf_141 : decode cX7_rankOf 141 = .ok (.ireturn, 1) := by decide +kernel
theorem dX7_rankOf_142 : decode cX7_rankOf 142 = .ok (.iconst 2, 1) := by decide +kernel
theorem dX7_rankOf_143 : decode cX7_rankOf 143 = .ok (.ireturn, 1) := by decide +kernel
theorem dX7_rankOf_144 : decode cX7_rankOf 144 = .ok (.iconst 3, 1) := by decide +kernel
theorem dX7_rankOf_145 : decode cX7_rankOf 145 = .ok (.ireturn, 1) := by decide +kernel
theorem dX7_rankOf_146 : decode cX7_rankOf 146 = .ok (.iconst 4, 1) := by decide +kernel
theorem dX7_rankOf_147 : decode cX7_rankOf 147 = .ok (.ireturn, 1) := by decide +kernel
theorem dX7_rankOf_148 : decode cX7_rankOf 148 = .ok (.iconst 5, 1) := by decide +kernel
theorem dX7_rankOf_149 : decode cX7_rankOf 149 = .ok (.ireturn, 1) := by decide +kernel
theorem dX7_rankOf_150 : decode cX7_rankOf 150 = .ok (.bipush 6, 2) := by decide +kernel
theorem dX7_rankOf_152 : decode cX7_rankOf 152 = .ok (.ireturn, 1) := by decide +kernel
theorem dX7_rankOf_153 : decode cX7_rankOf 153 = .ok (.iconst 0, 1) := by decide +kernel
theorem dX7_rankOf_154 : decode cX7_rankOf 154 = .ok (.ireturn, 1) := by decide +kernel
theorem dX8_init_0 : decode cX8_init 0 = .ok (.aload_n 0, 1) := by decide +kernel
theorem dX8_init_1 : decode cX8_init 1 = .ok (.invokespecial 3, 3) := by decide +kernel
theorem dX8_init_4 : decode cX8_init 4 = .ok (.return_, 1) := by decide +kernel
theorem dX8_forget_0 : decode cX8_forget 0 = .ok (.aload_n 0, 1) := by decide +kernel
theorem dX8_forget_1 : decode cX8_forget 1 = .ok (.iconst 0, 1) := by decide +kernel
theorem dX8_forget_2 : decode cX8_forget 2 = .ok (.putfield 9, 3) := by decide +kernel
theorem dX8_forget_5 : decode cX8_forget 5 = .ok (.aload_n 0, 1) := by decide +kernel
theorem dX8_forget_6 : decode cX8_forget 6 = .ok (.iconst 0, 1) := by decide +kernel
theorem dX8_forget_7 : decode cX8_forget 7 = .ok (.putfield 15, 3) := by decide +kernel
theorem dX8_forget_10 : decode cX8_forget 10 = .ok (.aload_n 0, 1) := by decide +kernel
theorem dX8_forget_11 : decode cX8_forget 11 = .ok (.iconst (-1), 1) := by decide +kernel
theorem dX8_forget_12 : decode cX8_forget 12 = .ok (.putfield 18, 3) := by decide +kernel
theorem dX8_forget_15 : decode cX8_forget 15 = .ok (.return_, 1) := by decide +kernel
set_option maxRecDepth 20000 in
theorem ggX8_recall_X8_forget : GoodIn wsX8_recall wsX8_forget := goodIn_r _ [8, 1, 2, 3, 21, 22, 23, 24, 25, 26, 27, 28] rfl (by decide +kernel)
set_option maxRecDepth 20000 in
theorem gX8_recall_X8_forget : GoodIn wsX8_recall (wsV RX8 21 RX8 yX8_forget wsX8_forget) := goodIn_app (goodIn_r _ [4, 5, 6, 7] rfl (by decide +kernel)) ggX8_recall_X8_forget
theorem dX8_recall_0 : decode cX8_recall 0 = .ok (.aload_n 0, 1) := by decide +kernel
theorem dX8_recall_1 : decode cX8_recall 1 = .ok (.invokevirtual 21, 3) := by decide +kernel
theorem dX8_recall_4 : decode cX8_recall 4 = .ok (.iload_n 2, 1) := by decide +kernel
theorem dX8_recall_5 : decode cX8_recall 5 = .ok (.ifCond .lt 39, 3) := by decide +kernel
theorem dX8_recall_8 : decode cX8_recall 8 = .ok (.iload_n 2, 1) := by decide +kernel
theorem dX8_recall_9 : decode cX8_recall 9 = .ok (.bipush 8, 2) := by decide +kernel
theorem dX8_recall_11 : decode cX8_recall 11 = .ok (.if_icmp .ge 33, 3) := by decide +kernel
theorem dX8_recall_14 : decode cX8_recall 14 = .ok (.aload_n 0, 1) := by decide +kernel
theorem dX8_recall_15 : decode cX8_recall 15 = .ok (.aload_n 1, 1) := by decide +kernel
theorem dX8_recall_16 : decode cX8_recall 16 = .ok (.getfield 24, 3) := by decide +kernel
theorem dX8_recall_19 : decode cX8_recall 19 = .ok (.iload_n 2, 1) := by decide +kernel
theorem dX8_recall_20 : decode cX8_recall 20 = .ok (.iaload, 1) := by decide +kernel
theorem dX8_recall_21 : decode cX8_recall 21 = .ok (.putfield 9, 3) := by decide +kernel
theorem dX8_recall_24 : decode cX8_recall 24 = .ok (.aload_n 0, 1) := by decide +kernel
theorem dX8_recall_25 : decode cX8_recall 25 = .ok (.aload_n 1, 1) := by decide +kernel
theorem dX8_recall_26 : decode cX8_recall 26 = .ok (.getfield 29, 3) := by decide +kernel
theorem dX8_recall_29 : decode cX8_recall 29 = .ok (.iload_n 2, 1) := by decide +kernel
theorem dX8_recall_30 : decode cX8_recall 30 = .ok (.iaload, 1) := by decide +kernel
theorem dX8_recall_31 : decode cX8_recall 31 = .ok (.putfield 15, 3) := by decide +kernel
theorem dX8_recall_34 : decode cX8_recall 34 = .ok (.aload_n 0, 1) := by decide +kernel
theorem dX8_recall_35 : decode cX8_recall 35 = .ok (.aload_n 1, 1) := by decide +kernel
theorem dX8_recall_36 : decode cX8_recall 36 = .ok (.getfield 31, 3) := by decide +kernel
theorem dX8_recall_39 : decode cX8_recall 39 = .ok (.iload_n 2, 1) := by decide +kernel
theorem dX8_recall_40 : decode cX8_recall 40 = .ok (.iaload, 1) := by decide +kernel
theorem dX8_recall_41 : decode cX8_recall 41 = .ok (.putfield 18, 3) := by decide +kernel
theorem dX8_recall_44 : decode cX8_recall 44 = .ok (.return_, 1) := by decide +kernel
theorem dX8_add_0 : decode cX8_add 0 = .ok (.aload_n 0, 1) := by decide +kernel
theorem dX8_add_1 : decode cX8_add 1 = .ok (.sipush 9999, 3) := by decide +kernel
theorem dX8_add_4 : decode cX8_add 4 = .ok (.aload_n 0, 1) := by decide +kernel
theorem dX8_add_5 : decode cX8_add 5 = .ok (.getfield 9, 3) := by decide +kernel
theorem dX8_add_8 : decode cX8_add 8 = .ok (.iload_n 1, 1) := by decide +kernel
theorem dX8_add_9 : decode cX8_add 9 = .ok (.iadd, 1) := by decide +kernel
theorem dX8_add_10 : decode cX8_add 10 = .ok (.invokestatic 33, 3) := by decide +kernel
theorem dX8_add_13 : decode cX8_add 13 = .ok (.putfield 9, 3) := by decide +kernel
theorem dX8_add_16 : decode cX8_add 16 = .ok (.aload_n 0, 1) := by decide +kernel
theorem dX8_add_17 : decode cX8_add 17 = .ok (.dup, 1) := by decide +kernel
theorem dX8_add_18 : decode cX8_add 18 = .ok (.getfield 15, 3) := by decide +kernel
theorem dX8_add_21 : decode cX8_add 21 = .ok (.iconst 1, 1) := by decide +kernel
theorem dX8_add_22 : decode cX8_add 22 = .ok (.iadd, 1) := by decide +kernel
theorem dX8_add_23 : decode cX8_add 23 = .ok (.putfield 15, 3) := by decide +kernel
theorem dX8_add_26 : decode cX8_add 26 = .ok (.aload_n 0, 1) := by decide +kernel
theorem dX8_add_27 : decode cX8_add 27 = .ok (.aload_n 0, 1) := by decide +kernel
theorem dX8_add_28 : decode cX8_add 28 = .ok (.getfield 18, 3) := by decide +kernel
theorem dX8_add_31 : decode cX8_add 31 = .ok (.iload_n 2, 1) := by decide +kernel
theorem dX8_add_32 : decode cX8_add 32 = .ok (.invokestatic 39, 3) := by decide +kernel
theorem dX8_add_35 : decode cX8_add 35 = .ok (.putfield 18, 3) := by decide +kernel
theorem dX8_add_38 : decode cX8_add 38 = .ok (.return_, 1) := by decide +kernel
theorem dX8_set_0 : decode cX8_set 0 = .ok (.aload_n 0, 1) := by decide +kernel
theorem dX8_set_1 : decode cX8_set 1 = .ok (.iload_n 1, 1) := by decide +kernel
theorem dX8_set_2 : decode cX8_set 2 = .ok (.putfield 42, 3) := by decide +kernel
theorem dX8_set_5 : decode cX8_set 5 = .ok (.aload_n 0, 1) := by decide +kernel
theorem dX8_set_6 : decode cX8_set 6 = .ok (.iload_n 2, 1) := by decide +kernel
theorem dX8_set_7 : decode cX8_set 7 = .ok (.putfield 45, 3) := by decide +kernel
theorem dX8_set_10 : decode cX8_set 10 = .ok (.aload_n 0, 1) := by decide +kernel
theorem dX8_set_11 : decode cX8_set 11 = .ok (.iload_n 3, 1) := by decide +kernel
theorem dX8_set_12 : decode cX8_set 12 = .ok (.putfield 48, 3) := by decide +kernel
theorem dX8_set_15 : decode cX8_set 15 = .ok (.aload_n 0, 1) := by decide +kernel
theorem dX8_set_16 : decode cX8_set 16 = .ok (.aload_n 0, 1) := by decide +kernel
theorem dX8_set_17 : decode cX8_set 17 = .ok (.getfield 18, 3) := by decide +kernel
theorem dX8_set_20 : decode cX8_set 20 = .ok (.iconst (-1), 1) := by decide +kernel
theorem dX8_set_21 : decode cX8_set 21 = .ok (.if_icmp .ne 8, 3) := by decide +kernel
theorem dX8_set_24 : decode cX8_set 24 = .ok (.bipush 99, 2) := by decide +kernel
theorem dX8_set_26 : decode cX8_set 26 = .ok (.goto 14, 3) := by decide +kernel
theorem dX8_set_29 : decode cX8_set 29 = .ok (.bipush 99, 2) := by decide +kernel
theorem dX8_set_31 : decode cX8_set 31 = .ok (.iload_n 1, 1) := by decide +kernel
theorem dX8_set_32 : decode cX8_set 32 = .ok (.aload_n 0, 1) := by decide +kernel
theorem dX8_set_33 : decode cX8_set 33 = .ok (.getfield 18, 3) := by decide +kernel
theorem dX8_set_36 : decode cX8_set 36 = .ok (.isub, 1) := by decide +kernel
theorem dX8_set_37 : decode cX8_set 37 = .ok (.invokestatic 33, 3) := by decide +kernel
theorem dX8_set_40 : decode cX8_set 40 = .ok (.putfield 51, 3) := by decide +kernel
theorem dX8_set_43 : decode cX8_set 43 = .ok (.return_, 1) := by decide +kernel
theorem dX8_valueOf_0 : decode cX8_valueOf 0 = .ok (.iload_n 1, 1) := by decide +kernel
theorem dX8_valueOf_1 : decode cX8_valueOf 1 = .ok (.tableswitch 75 25 30 #[39, 45, 51, 57, 63, 69], 39) := by decide +kernel
theorem dX8_valueOf_40 : decode cX8_valueOf 40 = .ok (.aload_n 0, 1) := by decide +kernel
theorem dX8_valueOf_41 : decode cX8_valueOf 41 = .ok (.getfield 9, 3) := by decide +kernel
theorem dX8_valueOf_44 : decode cX8_valueOf 44 = .ok (.i2l, 1) := by decide +kernel
theorem dX8_valueOf_45 : decode cX8_valueOf 45 = .ok (.lreturn, 1) := by decide +kernel
theorem dX8_valueOf_46 : decode cX8_valueOf 46 = .ok (.aload_n 0, 1) := by decide +kernel
theorem dX8_valueOf_47 : decode cX8_valueOf 47 = .ok (.getfield 51, 3) := by decide +kernel
theorem dX8_valueOf_50 : decode cX8_valueOf 50 = .ok (.i2l, 1) := by decide +kernel
theorem dX8_valueOf_51 : decode cX8_valueOf 51 = .ok (.lreturn, 1) := by decide +kernel
theorem dX8_valueOf_52 : decode cX8_valueOf 52 = .ok (.aload_n 0, 1) := by decide +kernel
theorem dX8_valueOf_53 : decode cX8_valueOf 53 = .ok (.getfield 15, 3) := by decide +kernel
theorem dX8_valueOf_56 : decode cX8_valueOf 56 = .ok (.i2l, 1) := by decide +kernel
theorem dX8_valueOf_57 : decode cX8_valueOf 57 = .ok (.lreturn, 1) := by decide +kernel
theorem dX8_valueOf_58 : decode cX8_valueOf 58 = .ok (.aload_n 0, 1) := by decide +kernel
theorem dX8_valueOf_59 : decode cX8_valueOf 59 = .ok (.getfield 45, 3) := by decide +kernel
theorem dX8_valueOf_62 : decode cX8_valueOf 62 = .ok (.i2l, 1) := by decide +kernel
theorem dX8_valueOf_63 : decode cX8_valueOf 63 = .ok (.lreturn, 1) := by decide +kernel
theorem dX8_valueOf_64 : decode cX8_valueOf 64 = .ok (.aload_n 0, 1) := by decide +kernel
theorem dX8_valueOf_65 : decode cX8_valueOf 65 = .ok (.getfield 42, 3) := by decide +kernel
theorem dX8_valueOf_68 : decode cX8_valueOf 68 = .ok (.i2l, 1) := by decide +kernel
theorem dX8_valueOf_69 : decode cX8_valueOf 69 = .ok (.lreturn, 1) := by decide +kernel
theorem dX8_valueOf_70 : decode cX8_valueOf 70 = .ok (.aload_n 0, 1) := by decide +kernel
theorem dX8_valueOf_71 : decode cX8_valueOf 71 = .ok (.getfield 54, 3) := by decide +kernel
theorem dX8_valueOf_74 : decode cX8_valueOf 74 = .ok (.i2l, 1) := by decide +kernel
theorem dX8_valueOf_75 : decode cX8_valueOf 75 = .ok (.lreturn, 1) := by decide +kernel
theorem dX8_valueOf_76 : decode cX8_valueOf 76 = .ok (.aload_n 0, 1) := by decide +kernel
theorem dX8_valueOf_77 : decode cX8_valueOf 77 = .ok (.getfield 48, 3) := by decide +kernel
theorem dX8_valueOf_80 : decode cX8_valueOf 80 = .ok (.i2l, 1) := by decide +kernel
theorem dX8_valueOf_81 : decode cX8_valueOf 81 = .ok (.lreturn, 1) := by decide +kernel
theorem dX9_init_0 : decode cX9_init 0 = .ok (.aload_n 0, 1) := by decide +kernel
theorem dX9_init_1 : decode cX9_init 1 = .ok (.invokespecial 3, 3) := by decide +kernel
theorem dX9_init_4 : decode cX9_init 4 = .ok (.aload_n 0, 1) := by decide +kernel
theorem dX9_init_5 : decode cX9_init 5 = .ok (.sipush 700, 3) := by decide +kernel
theorem dX9_init_8 : decode cX9_init 8 = .ok (.newarray .byte, 2) := by decide +kernel
theorem dX9_init_10 : decode cX9_init 10 = .ok (.putfield 9, 3) := by decide +kernel
theorem dX9_init_13 : decode cX9_init 13 = .ok (.aload_n 0, 1) := by decide +kernel
theorem dX9_init_14 : decode cX9_init 14 = .ok (.sipush 700, 3) := by decide +kernel
theorem dX9_init_17 : decode cX9_init 17 = .ok (.newarray .int, 2) := by decide +kernel
theorem dX9_init_19 : decode cX9_init 19 = .ok (.putfield 15, 3) := by decide +kernel
theorem dX9_init_22 : decode cX9_init 22 = .ok (.aload_n 0, 1) := by decide +kernel
theorem dX9_init_23 : decode cX9_init 23 = .ok (.sipush 700, 3) := by decide +kernel
theorem dX9_init_26 : decode cX9_init 26 = .ok (.newarray .int, 2) := by decide +kernel
theorem dX9_init_28 : decode cX9_init 28 = .ok (.putfield 19, 3) := by decide +kernel
theorem dX9_init_31 : decode cX9_init 31 = .ok (.aload_n 0, 1) := by decide +kernel
theorem dX9_init_32 : decode cX9_init 32 = .ok (.sipush 700, 3) := by decide +kernel
theorem dX9_init_35 : decode cX9_init 35 = .ok (.newarray .int, 2) := by decide +kernel
theorem dX9_init_37 : decode cX9_init 37 = .ok (.putfield 22, 3) := by decide +kernel
theorem dX9_init_40 : decode cX9_init 40 = .ok (.aload_n 0, 1) := by decide +kernel
theorem dX9_init_41 : decode cX9_init 41 = .ok (.bipush 22, 2) := by decide +kernel
theorem dX9_init_43 : decode cX9_init 43 = .ok (.newarray .int, 2) := by decide +kernel
theorem dX9_init_45 : decode cX9_init 45 = .ok (.putfield 25, 3) := by decide +kernel
theorem dX9_init_48 : decode cX9_init 48 = .ok (.iconst 0, 1) := by decide +kernel
theorem dX9_init_49 : decode cX9_init 49 = .ok (.istore_n 1, 1) := by decide +kernel
theorem dX9_init_50 : decode cX9_init 50 = .ok (.iconst 0, 1) := by decide +kernel
theorem dX9_init_51 : decode cX9_init 51 = .ok (.istore_n 2, 1) := by decide +kernel
theorem dX9_init_52 : decode cX9_init 52 = .ok (.iconst 0, 1) := by decide +kernel
theorem dX9_init_53 : decode cX9_init 53 = .ok (.istore_n 3, 1) := by decide +kernel
theorem dX9_init_54 : decode cX9_init 54 = .ok (.iconst 0, 1) := by decide +kernel
theorem dX9_init_55 : decode cX9_init 55 = .ok (.istore 4, 2) := by decide +kernel
theorem dX9_init_57 : decode cX9_init 57 = .ok (.iload 4, 2) := by decide +kernel
theorem dX9_init_59 : decode cX9_init 59 = .ok (.ldc 28, 2) := by decide +kernel
theorem dX9_init_61 : decode cX9_init 61 = .ok (.invokevirtual 30, 3) := by decide +kernel
theorem dX9_init_64 : decode cX9_init 64 = .ok (.if_icmp .ge 70, 3) := by decide +kernel
theorem dX9_init_67 : decode cX9_init 67 = .ok (.iload_n 1, 1) := by decide +kernel
theorem dX9_init_68 : decode cX9_init 68 = .ok (.bipush 22, 2) := by decide +kernel
theorem dX9_init_70 : decode cX9_init 70 = .ok (.if_icmp .ge 64, 3) := by decide +kernel
theorem dX9_init_73 : decode cX9_init 73 = .ok (.ldc 28, 2) := by decide +kernel
theorem dX9_init_75 : decode cX9_init 75 = .ok (.iload 4, 2) := by decide +kernel
theorem dX9_init_77 : decode cX9_init 77 = .ok (.invokevirtual 36, 3) := by decide +kernel
theorem dX9_init_80 : decode cX9_init 80 = .ok (.istore 5, 2) := by decide +kernel
theorem dX9_init_82 : decode cX9_init 82 = .ok (.iload 5, 2) := by decide +kernel
theorem dX9_init_84 : decode cX9_init 84 = .ok (.bipush 32, 2) := by decide +kernel
theorem dX9_init_86 : decode cX9_init 86 = .ok (.if_icmp .ne 27, 3) := by decide +kernel
theorem dX9_init_89 : decode cX9_init 89 = .ok (.aload_n 0, 1) := by decide +kernel
theorem dX9_init_90 : decode cX9_init 90 = .ok (.getfield 25, 3) := by decide +kernel
theorem dX9_init_93 : decode cX9_init 93 = .ok (.iload_n 1, 1) := by decide +kernel
theorem dX9_init_94 : decode cX9_init 94 = .ok (.iload_n 3, 1) := by decide +kernel
theorem dX9_init_95 : decode cX9_init 95 = .ok (.iconst 5, 1) := by decide +kernel
theorem dX9_init_96 : decode cX9_init 96 = .ok (.bipush 6, 2) := by decide +kernel
theorem dX9_init_98 : decode cX9_init 98 = .ok (.iload_n 2, 1) := by decide +kernel
theorem dX9_init_99 : decode cX9_init 99 = .ok (.isub, 1) := by decide +kernel
theorem dX9_init_100 : decode cX9_init 100 = .ok (.imul, 1) := by decide +kernel
theorem dX9_init_101 : decode cX9_init 101 = .ok (.ishl, 1) := by decide +kernel
theorem dX9_init_102 : decode cX9_init 102 = .ok (.iastore, 1) := by decide +kernel
theorem dX9_init_103 : decode cX9_init 103 = .ok (.iinc 1 1, 3) := by decide +kernel
theorem dX9_init_106 : decode cX9_init 106 = .ok (.iconst 0, 1) := by decide +kernel
theorem dX9_init_107 : decode cX9_init 107 = .ok (.istore_n 2, 1) := by decide +kernel
theorem dX9_init_108 : decode cX9_init 108 = .ok (.iconst 0, 1) := by decide +kernel
theorem dX9_init_109 : decode cX9_init 109 = .ok (.istore_n 3, 1) := by decide +kernel
theorem dX9_init_110 : decode cX9_init 110 = .ok (.goto 18, 3) := by decide +kernel
theorem dX9_init_113 : decode cX9_init 113 = .ok (.iload_n 3, 1) := by decide +kernel
theorem dX9_init_114 : decode cX9_init 114 = .ok (.iconst 5, 1) := by decide +kernel
theorem dX9_init_115 : decode cX9_init 115 = .ok (.ishl, 1) := by decide +kernel
theorem dX9_init_116 : decode cX9_init 116 = .ok (.iload 5, 2) := by decide +kernel
theorem dX9_init_118 : decode cX9_init 118 = .ok (.bipush 97, 2) := by decide +kernel
theorem dX9_init_120 : decode cX9_init 120 = .ok (.isub, 1) := by decide +kernel
theorem dX9_init_121 : decode cX9_init 121 = .ok (.iconst 1, 1) := by decide +kernel
theorem dX9_init_122 : decode cX9_init 122 = .ok (.iadd, 1) := by decide +kernel
theorem dX9_init_123 : decode cX9_init 123 = .ok (.ior, 1) := by decide +kernel
theorem dX9_init_124 : decode cX9_init 124 = .ok (.istore_n 3, 1) := by decide +kernel
theorem dX9_init_125 : decode cX9_init 125 = .ok (.iinc 2 1, 3) := by decide +kernel
theorem dX9_init_128 : decode cX9_init 128 = .ok (.iinc 4 1, 3) := by decide +kernel
theorem dX9_init_131 : decode cX9_init 131 = .ok (.goto (-74), 3) := by decide +kernel
theorem dX9_init_134 : decode cX9_init 134 = .ok (.return_, 1) := by decide +kernel
theorem dX9_hasRoomFor_0 : decode cX9_hasRoomFor 0 = .ok (.aload_n 0, 1) := by decide +kernel
theorem dX9_hasRoomFor_1 : decode cX9_hasRoomFor 1 = .ok (.getfield 40, 3) := by decide +kernel
theorem dX9_hasRoomFor_4 : decode cX9_hasRoomFor 4 = .ok (.iload_n 1, 1) := by decide +kernel
theorem dX9_hasRoomFor_5 : decode cX9_hasRoomFor 5 = .ok (.iadd, 1) := by decide +kernel
theorem dX9_hasRoomFor_6 : decode cX9_hasRoomFor 6 = .ok (.sipush 700, 3) := by decide +kernel
theorem dX9_hasRoomFor_9 : decode cX9_hasRoomFor 9 = .ok (.if_icmp .gt 7, 3) := by decide +kernel
theorem dX9_hasRoomFor_12 : decode cX9_hasRoomFor 12 = .ok (.iconst 1, 1) := by decide +kernel
theorem dX9_hasRoomFor_13 : decode cX9_hasRoomFor 13 = .ok (.goto 4, 3) := by decide +kernel
theorem dX9_hasRoomFor_16 : decode cX9_hasRoomFor 16 = .ok (.iconst 0, 1) := by decide +kernel
theorem dX9_hasRoomFor_17 : decode cX9_hasRoomFor 17 = .ok (.ireturn, 1) := by decide +kernel
theorem dX9_add_0 : decode cX9_add 0 = .ok (.bipush 24, 2) := by decide +kernel
theorem dX9_add_2 : decode cX9_add 2 = .ok (.istore_n 2, 1) := by decide +kernel
theorem dX9_add_3 : decode cX9_add 3 = .ok (.iload_n 2, 1) := by decide +kernel
theorem dX9_add_4 : decode cX9_add 4 = .ok (.ifCond .lt 42, 3) := by decide +kernel
theorem dX9_add_7 : decode cX9_add 7 = .ok (.aload_n 0, 1) := by decide +kernel
theorem dX9_add_8 : decode cX9_add 8 = .ok (.getfield 40, 3) := by decide +kernel
theorem dX9_add_11 : decode cX9_add 11 = .ok (.sipush 700, 3) := by decide +kernel
theorem dX9_add_14 : decode cX9_add 14 = .ok (.if_icmp .ge 32, 3) := by decide +kernel
theorem dX9_add_17 : decode cX9_add 17 = .ok (.aload_n 0, 1) := by decide +kernel
theorem dX9_add_18 : decode cX9_add 18 = .ok (.getfield 9, 3) := by decide +kernel
theorem dX9_add_21 : decode cX9_add 21 = .ok (.aload_n 0, 1) := by decide +kernel
theorem dX9_add_22 : decode cX9_add 22 = .ok (.getfield 40, 3) := by decide +kernel
theorem dX9_add_25 : decode cX9_add 25 = .ok (.iload_n 1, 1) := by decide +kernel
theorem dX9_add_26 : decode cX9_add 26 = .ok (.iload_n 2, 1) := by decide +kernel
theorem dX9_add_27 : decode cX9_add 27 = .ok (.ishr, 1) := by decide +kernel
theorem dX9_add_28 : decode cX9_add 28 = .ok (.i2b, 1) := by decide +kernel
theorem dX9_add_29 : decode cX9_add 29 = .ok (.bastore, 1) := by decide +kernel
theorem dX9_add_30 : decode cX9_add 30 = .ok (.aload_n 0, 1) := by decide +kernel
theorem dX9_add_31 : decode cX9_add 31 = .ok (.dup, 1) := by decide +kernel
theorem dX9_add_32 : decode cX9_add 32 = .ok (.getfield 40, 3) := by decide +kernel
theorem dX9_add_35 : decode cX9_add 35 = .ok (.iconst 1, 1) := by decide +kernel
theorem dX9_add_36 : decode cX9_add 36 = .ok (.iadd, 1) := by decide +kernel
theorem dX9_add_37 : decode cX9_add 37 = .ok (.putfield 40, 3) := by decide +kernel
theorem dX9_add_40 : decode cX9_add 40 = .ok (.iinc 2 (-8), 3) := by decide +kernel
theorem dX9_add_43 : decode cX9_add 43 = .ok (.goto (-40), 3) := by decide +kernel
theorem dX9_add_46 : decode cX9_add 46 = .ok (.return_, 1) := by decide +kernel
set_option maxRecDepth 20000 in
theorem ggX9_cut_X9_isLetter : GoodIn wsX9_cut wsX9_isLetter := goodIn_r _ [13] rfl (by decide +kernel)
set_option maxRecDepth 20000 in
theorem gX9_cut_X9_isLetter : GoodIn wsX9_cut (va_wsS RX9 58 yX9_isLetter wsX9_isLetter) := goodIn_app (goodIn_of _ (by decide +kernel)) ggX9_cut_X9_isLetter
set_option maxRecDepth 20000 in
theorem ggX9_cut_X9_cutWord : GoodIn wsX9_cut wsX9_cutWord := goodIn_r _ [17, 8, 6, 9, 10, 11, 12, 13, 18, 19, 20, 21, 7, 22, 23, 24, 25, 26, 27, 28, 29, 48, 49, 50, 51, 52, 53, 54, 55, 56] rfl (by decide +kernel)
set_option maxRecDepth 20000 in
theorem gX9_cut_X9_cutWord : GoodIn wsX9_cut (wsV RX9 62 RX9 yX9_cutWord wsX9_cutWord) := goodIn_app (goodIn_r _ [14, 15, 16, 12] rfl (by decide +kernel)) ggX9_cut_X9_cutWord
set_option maxRecDepth 20000 in
theorem ggX9_cut_X9_isDigit : GoodIn wsX9_cut wsX9_isDigit := goodIn_r _ [32] rfl (by decide +kernel)
set_option maxRecDepth 20000 in
theorem gX9_cut_X9_isDigit : GoodIn wsX9_cut (va_wsS RX9 65 yX9_isDigit wsX9_isDigit) := goodIn_app (goodIn_of _ (by decide +kernel)) ggX9_cut_X9_isDigit
set_option maxRecDepth 20000 in
theorem ggX9_cut_X9_cutNumber : GoodIn wsX9_cut wsX9_cutNumber := goodIn_r _ [36, 8, 6, 9, 37, 2, 3, 4, 5, 30, 31, 12, 32, 18, 19, 20, 21, 7, 22, 23, 24, 48, 49, 50, 51, 52, 53, 54, 55, 56] rfl (by decide +kernel)
set_option maxRecDepth 20000 in
theorem gX9_cut_X9_cutNumber : GoodIn wsX9_cut (wsV RX9 68 RX9 yX9_cutNumber wsX9_cutNumber) := goodIn_app (goodIn_r _ [33, 34, 35, 12] rfl (by decide +kernel)) ggX9_cut_X9_cutNumber
set_option maxRecDepth 20000 in
theorem ggX9_cut_X9_cutSign : GoodIn wsX9_cut wsX9_cutSign := goodIn_r _ [41, 8, 6, 9, 42, 43, 12, 44, 45, 46, 47, 18, 19, 20, 21, 7, 22, 23, 24, 48, 49, 50, 51, 52, 53, 54, 55, 56] rfl (by decide +kernel)
set_option maxRecDepth 20000 in
theorem gX9_cut_X9_cutSign : GoodIn wsX9_cut (wsV RX9 71 RX9 yX9_cutSign wsX9_cutSign) := goodIn_app (goodIn_r _ [38, 39, 40, 12] rfl (by decide +kernel)) ggX9_cut_X9_cutSign
theorem dX9_cut_0 : decode cX9_cut 0 = .ok (.aload_n 0, 1) := by decide +kernel
theorem dX9_cut_1 : decode cX9_cut 1 = .ok (.iload_n 1, 1) := by decide +kernel
theorem dX9_cut_2 : decode cX9_cut 2 = .ok (.aload_n 0, 1) := by decide +kernel
theorem dX9_cut_3 : decode cX9_cut 3 = .ok (.getfield 40, 3) := by decide +kernel
theorem dX9_cut_6 : decode cX9_cut 6 = .ok (.invokestatic 44, 3) := by decide +kernel
theorem dX9_cut_9 : decode cX9_cut 9 = .ok (.putfield 50, 3) := by decide +kernel
theorem dX9_cut_12 : decode cX9_cut 12 = .ok (.aload_n 0, 1) := by decide +kernel
theorem dX9_cut_13 : decode cX9_cut 13 = .ok (.iconst 0, 1) := by decide +kernel
theorem dX9_cut_14 : decode cX9_cut 14 = .ok (.putfield 40, 3) := by decide +kernel
theorem dX9_cut_17 : decode cX9_cut 17 = .ok (.aload_n 0, 1) := by decide +kernel
theorem dX9_cut_18 : decode cX9_cut 18 = .ok (.iconst 0, 1) := by decide +kernel
theorem dX9_cut_19 : decode cX9_cut 19 = .ok (.putfield 52, 3) := by decide +kernel
theorem dX9_cut_22 : decode cX9_cut 22 = .ok (.aload_n 0, 1) := by decide +kernel
theorem dX9_cut_23 : decode cX9_cut 23 = .ok (.iconst 0, 1) := by decide +kernel
theorem dX9_cut_24 : decode cX9_cut 24 = .ok (.putfield 55, 3) := by decide +kernel
theorem dX9_cut_27 : decode cX9_cut 27 = .ok (.iconst 0, 1) := by decide +kernel
theorem dX9_cut_28 : decode cX9_cut 28 = .ok (.istore_n 2, 1) := by decide +kernel
theorem dX9_cut_29 : decode cX9_cut 29 = .ok (.iload_n 2, 1) := by decide +kernel
theorem dX9_cut_30 : decode cX9_cut 30 = .ok (.sipush 700, 3) := by decide +kernel
theorem dX9_cut_33 : decode cX9_cut 33 = .ok (.if_icmp .ge 88, 3) := by decide +kernel
theorem dX9_cut_36 : decode cX9_cut 36 = .ok (.aload_n 0, 1) := by decide +kernel
theorem dX9_cut_37 : decode cX9_cut 37 = .ok (.getfield 55, 3) := by decide +kernel
theorem dX9_cut_40 : decode cX9_cut 40 = .ok (.aload_n 0, 1) := by decide +kernel
theorem dX9_cut_41 : decode cX9_cut 41 = .ok (.getfield 50, 3) := by decide +kernel
theorem dX9_cut_44 : decode cX9_cut 44 = .ok (.if_icmp .ge 77, 3) := by decide +kernel
theorem dX9_cut_47 : decode cX9_cut 47 = .ok (.aload_n 0, 1) := by decide +kernel
theorem dX9_cut_48 : decode cX9_cut 48 = .ok (.getfield 9, 3) := by decide +kernel
theorem dX9_cut_51 : decode cX9_cut 51 = .ok (.aload_n 0, 1) := by decide +kernel
theorem dX9_cut_52 : decode cX9_cut 52 = .ok (.getfield 55, 3) := by decide +kernel
theorem dX9_cut_55 : decode cX9_cut 55 = .ok (.baload, 1) := by decide +kernel
theorem dX9_cut_56 : decode cX9_cut 56 = .ok (.istore_n 3, 1) := by decide +kernel
theorem dX9_cut_57 : decode cX9_cut 57 = .ok (.iload_n 3, 1) := by decide +kernel
theorem dX9_cut_58 : decode cX9_cut 58 = .ok (.bipush 10, 2) := by decide +kernel
theorem dX9_cut_60 : decode cX9_cut 60 = .ok (.if_icmp .eq 9, 3) := by decide +kernel
theorem dX9_cut_63 : decode cX9_cut 63 = .ok (.iload_n 3, 1) := by decide +kernel
theorem dX9_cut_64 : decode cX9_cut 64 = .ok (.bipush 32, 2) := by decide +kernel
theorem dX9_cut_66 : decode cX9_cut 66 = .ok (.if_icmp .ne 16, 3) := by decide +kernel
theorem dX9_cut_69 : decode cX9_cut 69 = .ok (.aload_n 0, 1) := by decide +kernel
theorem dX9_cut_70 : decode cX9_cut 70 = .ok (.dup, 1) := by decide +kernel
theorem dX9_cut_71 : decode cX9_cut 71 = .ok (.getfield 55, 3) := by decide +kernel
theorem dX9_cut_74 : decode cX9_cut 74 = .ok (.iconst 1, 1) := by decide +kernel
theorem dX9_cut_75 : decode cX9_cut 75 = .ok (.iadd, 1) := by decide +kernel
theorem dX9_cut_76 : decode cX9_cut 76 = .ok (.putfield 55, 3) := by decide +kernel
theorem dX9_cut_79 : decode cX9_cut 79 = .ok (.goto 36, 3) := by decide +kernel
theorem dX9_cut_82 : decode cX9_cut 82 = .ok (.iload_n 3, 1) := by decide +kernel
theorem dX9_cut_83 : decode cX9_cut 83 = .ok (.invokestatic 58, 3) := by decide +kernel
theorem dX9_cut_86 : decode cX9_cut 86 = .ok (.ifCond .eq 10, 3) := by decide +kernel
theorem dX9_cut_89 : decode cX9_cut 89 = .ok (.aload_n 0, 1) := by decide +kernel
theorem dX9_cut_90 : decode cX9_cut 90 = .ok (.invokevirtual 62, 3) := by decide +kernel
theorem dX9_cut_93 : decode cX9_cut 93 = .ok (.goto 22, 3) := by decide +kernel
theorem dX9_cut_96 : decode cX9_cut 96 = .ok (.iload_n 3, 1) := by decide +kernel
theorem dX9_cut_97 : decode cX9_cut 97 = .ok (.invokestatic 65, 3) := by decide +kernel
theorem dX9_cut_100 : decode cX9_cut 100 = .ok (.ifCond .eq 10, 3) := by decide +kernel
theorem dX9_cut_103 : decode cX9_cut 103 = .ok (.aload_n 0, 1) := by decide +kernel
theorem dX9_cut_104 : decode cX9_cut 104 = .ok (.invokevirtual 68, 3) := by decide +kernel
theorem dX9_cut_107 : decode cX9_cut 107 = .ok (.goto 8, 3) := by decide +kernel
theorem dX9_cut_110 : decode cX9_cut 110 = .ok (.aload_n 0, 1) := by decide +kernel
theorem dX9_cut_111 : decode cX9_cut 111 = .ok (.iload_n 3, 1) := by decide +kernel
theorem dX9_cut_112 : decode cX9_cut 112 = .ok (.invokevirtual 71, 3) := by decide +kernel
theorem dX9_cut_115 : decode cX9_cut 115 = .ok (.iinc 2 1, 3) := by decide +kernel
theorem dX9_cut_118 : decode cX9_cut 118 = .ok (.goto (-89), 3) := by decide +kernel
theorem dX9_cut_121 : decode cX9_cut 121 = .ok (.return_, 1) := by decide +kernel
set_option maxRecDepth 20000 in
theorem ggX9_cutWord_X9_isLetter : GoodIn wsX9_cutWord wsX9_isLetter := goodIn_r _ [7] rfl (by decide +kernel)
set_option maxRecDepth 20000 in
theorem gX9_cutWord_X9_isLetter : GoodIn wsX9_cutWord (va_wsS RX9 58 yX9_isLetter wsX9_isLetter) := goodIn_app (goodIn_of _ (by decide +kernel)) ggX9_cutWord_X9_isLetter
set_option maxRecDepth 20000 in
theorem ggX9_cutWord_X9_addToken : GoodIn wsX9_cutWord wsX9_addToken := goodIn_r _ [11, 12, 13, 14, 15, 21, 22, 23, 24, 25, 26, 27, 28, 29] rfl (by decide +kernel)
set_option maxRecDepth 20000 in
theorem gX9_cutWord_X9_addToken : GoodIn wsX9_cutWord (wsV RX9 75 RX9 yX9_addToken wsX9_addToken) := goodIn_app (goodIn_r _ [8, 9, 10, 6] rfl (by decide +kernel)) ggX9_cutWord_X9_addToken
set_option maxRecDepth 20000 in
theorem ggX9_cutWord_X9_sortOfWord : GoodIn wsX9_cutWord wsX9_sortOfWord := goodIn_r _ [19, 20, 21, 22, 23, 24, 25, 26, 27, 28, 29] rfl (by decide +kernel)
set_option maxRecDepth 20000 in
theorem gX9_cutWord_X9_sortOfWord : GoodIn wsX9_cutWord (wsV RX9 79 RX9 yX9_sortOfWord wsX9_sortOfWord) := goodIn_app (goodIn_r _ [16, 17, 18, 6] rfl (by decide +kernel)) ggX9_cutWord_X9_sortOfWord
theorem dX9_cutWord_0 : decode cX9_cutWord 0 = .ok (.aload_n 0, 1) := by decide +kernel
theorem dX9_cutWord_1 : decode cX9_cutWord 1 = .ok (.getfield 55, 3) := by decide +kernel
theorem dX9_cutWord_4 : decode cX9_cutWord 4 = .ok (.istore_n 1, 1) := by decide +kernel
theorem dX9_cutWord_5 : decode cX9_cutWord 5 = .ok (.iconst 0, 1) := by decide +kernel
theorem dX9_cutWord_6 : decode cX9_cutWord 6 = .ok (.istore_n 2, 1) := by decide +kernel
theorem dX9_cutWord_7 : decode cX9_cutWord 7 = .ok (.aload_n 0, 1) := by decide +kernel
theorem dX9_cutWord_8 : decode cX9_cutWord 8 = .ok (.getfield 55, 3) := by decide +kernel
theorem dX9_cutWord_11 : decode cX9_cutWord 11 = .ok (.aload_n 0, 1) := by decide +kernel
theorem dX9_cutWord_12 : decode cX9_cutWord 12 = .ok (.getfield 50, 3) := by decide +kernel
theorem dX9_cutWord_15 : decode cX9_cutWord 15 = .ok (.if_icmp .ge 70, 3) := by decide +kernel
theorem dX9_cutWord_18 : decode cX9_cutWord 18 = .ok (.aload_n 0, 1) := by decide +kernel
theorem dX9_cutWord_19 : decode cX9_cutWord 19 = .ok (.getfield 9, 3) := by decide +kernel
theorem dX9_cutWord_22 : decode cX9_cutWord 22 = .ok (.aload_n 0, 1) := by decide +kernel
theorem dX9_cutWord_23 : decode cX9_cutWord 23 = .ok (.getfield 55, 3) := by decide +kernel
theorem dX9_cutWord_26 : decode cX9_cutWord 26 = .ok (.baload, 1) := by decide +kernel
theorem dX9_cutWord_27 : decode cX9_cutWord 27 = .ok (.invokestatic 58, 3) := by decide +kernel
theorem dX9_cutWord_30 : decode cX9_cutWord 30 = .ok (.ifCond .eq 55, 3) := by decide +kernel
theorem dX9_cutWord_33 : decode cX9_cutWord 33 = .ok (.aload_n 0, 1) := by decide +kernel
theorem dX9_cutWord_34 : decode cX9_cutWord 34 = .ok (.getfield 55, 3) := by decide +kernel
theorem dX9_cutWord_37 : decode cX9_cutWord 37 = .ok (.iload_n 1, 1) := by decide +kernel
theorem dX9_cutWord_38 : decode cX9_cutWord 38 = .ok (.isub, 1) := by decide +kernel
theorem dX9_cutWord_39 : decode cX9_cutWord 39 = .ok (.bipush 6, 2) := by decide +kernel
theorem dX9_cutWord_41 : decode cX9_cutWord 41 = .ok (.if_icmp .ge 31, 3) := by decide +kernel
theorem dX9_cutWord_44 : decode cX9_cutWord 44 = .ok (.iload_n 2, 1) := by decide +kernel
theorem dX9_cutWord_45 : decode cX9_cutWord 45 = .ok (.aload_n 0, 1) := by decide +kernel
theorem dX9_cutWord_46 : decode cX9_cutWord 46 = .ok (.getfield 9, 3) := by decide +kernel
theorem dX9_cutWord_49 : decode cX9_cutWord 49 = .ok (.aload_n 0, 1) := by decide +kernel
theorem dX9_cutWord_50 : decode cX9_cutWord 50 = .ok (.getfield 55, 3) := by decide +kernel
theorem dX9_cutWord_53 : decode cX9_cutWord 53 = .ok (.baload, 1) := by decide +kernel
theorem dX9_cutWord_54 : decode cX9_cutWord 54 = .ok (.bipush 97, 2) := by decide +kernel
theorem dX9_cutWord_56 : decode cX9_cutWord 56 = .ok (.isub, 1) := by decide +kernel
theorem dX9_cutWord_57 : decode cX9_cutWord 57 = .ok (.iconst 1, 1) := by decide +kernel
theorem dX9_cutWord_58 : decode cX9_cutWord 58 = .ok (.iadd, 1) := by decide +kernel
theorem dX9_cutWord_59 : decode cX9_cutWord 59 = .ok (.iconst 5, 1) := by decide +kernel
theorem dX9_cutWord_60 : decode cX9_cutWord 60 = .ok (.iconst 5, 1) := by decide +kernel
theorem dX9_cutWord_61 : decode cX9_cutWord 61 = .ok (.aload_n 0, 1) := by decide +kernel
theorem dX9_cutWord_62 : decode cX9_cutWord 62 = .ok (.getfield 55, 3) := by decide +kernel
theorem dX9_cutWord_65 : decode cX9_cutWord 65 = .ok (.iload_n 1, 1) := by decide +kernel
theorem dX9_cutWord_66 : decode cX9_cutWord 66 = .ok (.isub, 1) := by decide +kernel
theorem dX9_cutWord_67 : decode cX9_cutWord 67 = .ok (.isub, 1) := by decide +kernel
theorem dX9_cutWord_68 : decode cX9_cutWord 68 = .ok (.imul, 1) := by decide +kernel
theorem dX9_cutWord_69 : decode cX9_cutWord 69 = .ok (.ishl, 1) := by decide +kernel
theorem dX9_cutWord_70 : decode cX9_cutWord 70 = .ok (.ior, 1) := by decide +kernel
theorem dX9_cutWord_71 : decode cX9_cutWord 71 = .ok (.istore_n 2, 1) := by decide +kernel
theorem dX9_cutWord_72 : decode cX9_cutWord 72 = .ok (.aload_n 0, 1) := by decide +kernel
theorem dX9_cutWord_73 : decode cX9_cutWord 73 = .ok (.dup, 1) := by decide +kernel
theorem dX9_cutWord_74 : decode cX9_cutWord 74 = .ok (.getfield 55, 3) := by decide +kernel
theorem dX9_cutWord_77 : decode cX9_cutWord 77 = .ok (.iconst 1, 1) := by decide +kernel
theorem dX9_cutWord_78 : decode cX9_cutWord 78 = .ok (.iadd, 1) := by decide +kernel
theorem dX9_cutWord_79 : decode cX9_cutWord 79 = .ok (.putfield 55, 3) := by decide +kernel
theorem dX9_cutWord_82 : decode cX9_cutWord 82 = .ok (.goto (-75), 3) := by decide +kernel
theorem dX9_cutWord_85 : decode cX9_cutWord 85 = .ok (.aload_n 0, 1) := by decide +kernel
theorem dX9_cutWord_86 : decode cX9_cutWord 86 = .ok (.getfield 55, 3) := by decide +kernel
theorem dX9_cutWord_89 : decode cX9_cutWord 89 = .ok (.iload_n 1, 1) := by decide +kernel
theorem dX9_cutWord_90 : decode cX9_cutWord 90 = .ok (.isub, 1) := by decide +kernel
theorem dX9_cutWord_91 : decode cX9_cutWord 91 = .ok (.bipush 6, 2) := by decide +kernel
theorem dX9_cutWord_93 : decode cX9_cutWord 93 = .ok (.if_icmp .le 13, 3) := by decide +kernel
theorem dX9_cutWord_96 : decode cX9_cutWord 96 = .ok (.aload_n 0, 1) := by decide +kernel
theorem dX9_cutWord_97 : decode cX9_cutWord 97 = .ok (.iconst 1, 1) := by decide +kernel
theorem dX9_cutWord_98 : decode cX9_cutWord 98 = .ok (.iconst 0, 1) := by decide +kernel
theorem dX9_cutWord_99 : decode cX9_cutWord 99 = .ok (.iload_n 1, 1) := by decide +kernel
theorem dX9_cutWord_100 : decode cX9_cutWord 100 = .ok (.invokevirtual 75, 3) := by decide +kernel
theorem dX9_cutWord_103 : decode cX9_cutWord 103 = .ok (.goto 14, 3) := by decide +kernel
theorem dX9_cutWord_106 : decode cX9_cutWord 106 = .ok (.aload_n 0, 1) := by decide +kernel
theorem dX9_cutWord_107 : decode cX9_cutWord 107 = .ok (.aload_n 0, 1) := by decide +kernel
theorem dX9_cutWord_108 : decode cX9_cutWord 108 = .ok (.iload_n 2, 1) := by decide +kernel
theorem dX9_cutWord_109 : decode cX9_cutWord 109 = .ok (.invokevirtual 79, 3) := by decide +kernel
theorem dX9_cutWord_112 : decode cX9_cutWord 112 = .ok (.iload_n 2, 1) := by decide +kernel
theorem dX9_cutWord_113 : decode cX9_cutWord 113 = .ok (.iload_n 1, 1) := by decide +kernel
theorem dX9_cutWord_114 : decode cX9_cutWord 114 = .ok (.invokevirtual 75, 3) := by decide +kernel
theorem dX9_cutWord_117 : decode cX9_cutWord 117 = .ok (.return_, 1) := by decide +kernel
theorem dX9_sortOfWord_0 : decode cX9_sortOfWord 0 = .ok (.iconst 0, 1) := by decide +kernel
theorem dX9_sortOfWord_1 : decode cX9_sortOfWord 1 = .ok (.istore_n 2, 1) := by decide +kernel
theorem dX9_sortOfWord_2 : decode cX9_sortOfWord 2 = .ok (.iload_n 2, 1) := by decide +kernel
theorem dX9_sortOfWord_3 : decode cX9_sortOfWord 3 = .ok (.bipush 22, 2) := by decide +kernel
theorem dX9_sortOfWord_5 : decode cX9_sortOfWord 5 = .ok (.if_icmp .ge 24, 3) := by decide +kernel
theorem dX9_sortOfWord_8 : decode cX9_sortOfWord 8 = .ok (.aload_n 0, 1) := by decide +kernel
theorem dX9_sortOfWord_9 : decode cX9_sortOfWord 9 = .ok (.getfield 25, 3) := by decide +kernel
theorem dX9_sortOfWord_12 : decode cX9_sortOfWord 12 = .ok (.iload_n 2, 1) := by decide +kernel
theorem dX9_sortOfWord_13 : decode cX9_sortOfWord 13 = .ok (.iaload, 1) := by decide +kernel
theorem dX9_sortOfWord_14 : decode cX9_sortOfWord 14 = .ok (.iload_n 1, 1) := by decide +kernel
theorem dX9_sortOfWord_15 : decode cX9_sortOfWord 15 = .ok (.if_icmp .ne 8, 3) := by decide +kernel
theorem dX9_sortOfWord_18 : decode cX9_sortOfWord 18 = .ok (.bipush 10, 2) := by decide +kernel
theorem dX9_sortOfWord_20 : decode cX9_sortOfWord 20 = .ok (.iload_n 2, 1) := by decide +kernel
theorem dX9_sortOfWord_21 : decode cX9_sortOfWord 21 = .ok (.iadd, 1) := by decide +kernel
theorem dX9_sortOfWord_22 : decode cX9_sortOfWord 22 = .ok (.ireturn, 1) := by decide +kernel
theorem dX9_sortOfWord_23 : decode cX9_sortOfWord 23 = .ok (.iinc 2 1, 3) := by decide +kernel
theorem dX9_sortOfWord_26 : decode cX9_sortOfWord 26 = .ok (.goto (-24), 3) := by decide +kernel
theorem dX9_sortOfWord_29 : decode cX9_sortOfWord 29 = .ok (.iconst 2, 1) := by decide +kernel
theorem dX9_sortOfWord_30 : decode cX9_sortOfWord 30 = .ok (.ireturn, 1) := by decide +kernel
set_option maxRecDepth 20000 in
theorem ggX9_cutNumber_X9_isDigit : GoodIn wsX9_cutNumber wsX9_isDigit := goodIn_r _ [12] rfl (by decide +kernel)
set_option maxRecDepth 20000 in
theorem gX9_cutNumber_X9_isDigit : GoodIn wsX9_cutNumber (va_wsS RX9 65 yX9_isDigit wsX9_isDigit) := goodIn_app (goodIn_of _ (by decide +kernel)) ggX9_cutNumber_X9_isDigit
set_option maxRecDepth 20000 in
theorem ggX9_cutNumber_X9_addToken : GoodIn wsX9_cutNumber wsX9_addToken := goodIn_r _ [16, 17, 18, 19, 20, 21, 22, 23, 24, 25, 26, 27, 28, 29] rfl (by decide +kernel)
set_option maxRecDepth 20000 in
theorem gX9_cutNumber_X9_addToken : GoodIn wsX9_cutNumber (wsV RX9 75 RX9 yX9_addToken wsX9_addToken) := goodIn_app (goodIn_r _ [13, 14, 15, 11] rfl (by decide +kernel)) ggX9_cutNumber_X9_addToken
theorem dX9_cutNumber_0 : decode cX9_cutNumber 0 = .ok (.aload_n 0, 1) := by decide +kernel
theorem dX9_cutNumber_1 : decode cX9_cutNumber 1 = .ok (.getfield 55, 3) := by decide +kernel
theorem dX9_cutNumber_4 : decode cX9_cutNumber 4 = .ok (.istore_n 1, 1) := by decide +kernel
theorem dX9_cutNumber_5 : decode cX9_cutNumber 5 = .ok (.iconst 0, 1) := by decide +kernel
theorem dX9_cutNumber_6 : decode cX9_cutNumber 6 = .ok (.istore_n 2, 1) := by decide +kernel
theorem dX9_cutNumber_7 : decode cX9_cutNumber 7 = .ok (.aload_n 0, 1) := by decide +kernel
theorem dX9_cutNumber_8 : decode cX9_cutNumber 8 = .ok (.getfield 55, 3) := by decide +kernel
theorem dX9_cutNumber_11 : decode cX9_cutNumber 11 = .ok (.aload_n 0, 1) := by decide +kernel
theorem dX9_cutNumber_12 : decode cX9_cutNumber 12 = .ok (.getfield 50, 3) := by decide +kernel
theorem dX9_cutNumber_15 : decode cX9_cutNumber 15 = .ok (.if_icmp .ge 54, 3) := by decide +kernel
theorem dX9_cutNumber_18 : decode cX9_cutNumber 18 = .ok (.aload_n 0, 1) := by decide +kernel
theorem dX9_cutNumber_19 : decode cX9_cutNumber 19 = .ok (.getfield 9, 3) := by decide +kernel
theorem dX9_cutNumber_22 : decode cX9_cutNumber 22 = .ok (.aload_n 0, 1) := by decide +kernel
theorem dX9_cutNumber_23 : decode cX9_cutNumber 23 = .ok (.getfield 55, 3) := by decide +kernel
theorem dX9_cutNumber_26 : decode cX9_cutNumber 26 = .ok (.baload, 1) := by decide +kernel
theorem dX9_cutNumber_27 : decode cX9_cutNumber 27 = .ok (.invokestatic 65, 3) := by decide +kernel
theorem dX9_cutNumber_30 : decode cX9_cutNumber 30 = .ok (.ifCond .eq 39, 3) := by decide +kernel
theorem dX9_cutNumber_33 : decode cX9_cutNumber 33 = .ok (.ldc 83, 2) := by decide +kernel
theorem dX9_cutNumber_35 : decode cX9_cutNumber 35 = .ok (.iload_n 2, 1) := by decide +kernel
theorem dX9_cutNumber_36 : decode cX9_cutNumber 36 = .ok (.bipush 10, 2) := by decide +kernel
theorem dX9_cutNumber_38 : decode cX9_cutNumber 38 = .ok (.imul, 1) := by decide +kernel
theorem dX9_cutNumber_39 : decode cX9_cutNumber 39 = .ok (.aload_n 0, 1) := by decide +kernel
theorem dX9_cutNumber_40 : decode cX9_cutNumber 40 = .ok (.getfield 9, 3) := by decide +kernel
theorem dX9_cutNumber_43 : decode cX9_cutNumber 43 = .ok (.aload_n 0, 1) := by decide +kernel
theorem dX9_cutNumber_44 : decode cX9_cutNumber 44 = .ok (.getfield 55, 3) := by decide +kernel
theorem dX9_cutNumber_47 : decode cX9_cutNumber 47 = .ok (.baload, 1) := by decide +kernel
theorem dX9_cutNumber_48 : decode cX9_cutNumber 48 = .ok (.iadd, 1) := by decide +kernel
theorem dX9_cutNumber_49 : decode cX9_cutNumber 49 = .ok (.bipush 48, 2) := by decide +kernel
theorem dX9_cutNumber_51 : decode cX9_cutNumber 51 = .ok (.isub, 1) := by decide +kernel
theorem dX9_cutNumber_52 : decode cX9_cutNumber 52 = .ok (.invokestatic 44, 3) := by decide +kernel
theorem dX9_cutNumber_55 : decode cX9_cutNumber 55 = .ok (.istore_n 2, 1) := by decide +kernel
theorem dX9_cutNumber_56 : decode cX9_cutNumber 56 = .ok (.aload_n 0, 1) := by decide +kernel
theorem dX9_cutNumber_57 : decode cX9_cutNumber 57 = .ok (.dup, 1) := by decide +kernel
theorem dX9_cutNumber_58 : decode cX9_cutNumber 58 = .ok (.getfield 55, 3) := by decide +kernel
theorem dX9_cutNumber_61 : decode cX9_cutNumber 61 = .ok (.iconst 1, 1) := by decide +kernel
theorem dX9_cutNumber_62 : decode cX9_cutNumber 62 = .ok (.iadd, 1) := by decide +kernel
theorem dX9_cutNumber_63 : decode cX9_cutNumber 63 = .ok (.putfield 55, 3) := by decide +kernel
theorem dX9_cutNumber_66 : decode cX9_cutNumber 66 = .ok (.goto (-59), 3) := by decide +kernel
theorem dX9_cutNumber_69 : decode cX9_cutNumber 69 = .ok (.aload_n 0, 1) := by decide +kernel
theorem dX9_cutNumber_70 : decode cX9_cutNumber 70 = .ok (.iconst 3, 1) := by decide +kernel
theorem dX9_cutNumber_71 : decode cX9_cutNumber 71 = .ok (.iload_n 2, 1) := by decide +kernel
theorem dX9_cutNumber_72 : decode cX9_cutNumber 72 = .ok (.iload_n 1, 1) := by decide +kernel
theorem dX9_cutNumber_73 : decode cX9_cutNumber 73 = .ok (.invokevirtual 75, 3) := by decide +kernel
theorem dX9_cutNumber_76 : decode cX9_cutNumber 76 = .ok (.return_, 1) := by decide +kernel
set_option maxRecDepth 20000 in
theorem ggX9_cutSign_X9_sortOfPair : GoodIn wsX9_cutSign wsX9_sortOfPair := goodIn_r _ [7] rfl (by decide +kernel)
set_option maxRecDepth 20000 in
theorem gX9_cutSign_X9_sortOfPair : GoodIn wsX9_cutSign (va_wsS RX9 84 yX9_sortOfPair wsX9_sortOfPair) := goodIn_app (goodIn_of _ (by decide +kernel)) ggX9_cutSign_X9_sortOfPair
set_option maxRecDepth 20000 in
theorem ggX9_cutSign_X9_sortOfSign : GoodIn wsX9_cutSign wsX9_sortOfSign := goodIn_r _ [10] rfl (by decide +kernel)
set_option maxRecDepth 20000 in
theorem gX9_cutSign_X9_sortOfSign : GoodIn wsX9_cutSign (va_wsS RX9 87 yX9_sortOfSign wsX9_sortOfSign) := goodIn_app (goodIn_of _ (by decide +kernel)) ggX9_cutSign_X9_sortOfSign
set_option maxRecDepth 20000 in
theorem ggX9_cutSign_X9_addToken : GoodIn wsX9_cutSign wsX9_addToken := goodIn_r _ [14, 15, 16, 17, 18, 19, 20, 21, 22, 23, 24, 25, 26, 27] rfl (by decide +kernel)
set_option maxRecDepth 20000 in
theorem gX9_cutSign_X9_addToken : GoodIn wsX9_cutSign (wsV RX9 75 RX9 yX9_addToken wsX9_addToken) := goodIn_app (goodIn_r _ [11, 12, 13, 6] rfl (by decide +kernel)) ggX9_cutSign_X9_addToken
theorem dX9_cutSign_0 : decode cX9_cutSign 0 = .ok (.aload_n 0, 1) := by decide +kernel
theorem dX9_cutSign_1 : decode cX9_cutSign 1 = .ok (.getfield 55, 3) := by decide +kernel
theorem dX9_cutSign_4 : decode cX9_cutSign 4 = .ok (.istore_n 2, 1) := by decide +kernel
theorem dX9_cutSign_5 : decode cX9_cutSign 5 = .ok (.aload_n 0, 1) := by decide +kernel
theorem dX9_cutSign_6 : decode cX9_cutSign 6 = .ok (.getfield 55, 3) := by decide +kernel
theorem dX9_cutSign_9 : decode cX9_cutSign 9 = .ok (.iconst 1, 1) := by decide +kernel
theorem dX9_cutSign_10 : decode cX9_cutSign 10 = .ok (.iadd, 1) := by decide +kernel
theorem dX9_cutSign_11 : decode cX9_cutSign 11 = .ok (.aload_n 0, 1) := by decide +kernel
theorem dX9_cutSign_12 : decode cX9_cutSign 12 = .ok (.getfield 50, 3) := by decide +kernel
theorem dX9_cutSign_15 : decode cX9_cutSign 15 = .ok (.if_icmp .ge 17, 3) := by decide +kernel
theorem dX9_cutSign_18 : decode cX9_cutSign 18 = .ok (.aload_n 0, 1) := by decide +kernel
theorem dX9_cutSign_19 : decode cX9_cutSign 19 = .ok (.getfield 9, 3) := by decide +kernel
theorem dX9_cutSign_22 : decode cX9_cutSign 22 = .ok (.aload_n 0, 1) := by decide +kernel
theorem dX9_cutSign_23 : decode cX9_cutSign 23 = .ok (.getfield 55, 3) := by decide +kernel
theorem dX9_cutSign_26 : decode cX9_cutSign 26 = .ok (.iconst 1, 1) := by decide +kernel
theorem dX9_cutSign_27 : decode cX9_cutSign 27 = .ok (.iadd, 1) := by decide +kernel
theorem dX9_cutSign_28 : decode cX9_cutSign 28 = .ok (.baload, 1) := by decide +kernel
theorem dX9_cutSign_29 : decode cX9_cutSign 29 = .ok (.goto 4, 3) := by decide +kernel
theorem dX9_cutSign_32 : decode cX9_cutSign 32 = .ok (.iconst 0, 1) := by decide +kernel
theorem dX9_cutSign_33 : decode cX9_cutSign 33 = .ok (.istore_n 3, 1) := by decide +kernel
theorem dX9_cutSign_34 : decode cX9_cutSign 34 = .ok (.aload_n 0, 1) := by decide +kernel
theorem dX9_cutSign_35 : decode cX9_cutSign 35 = .ok (.dup, 1) := by decide +kernel
theorem dX9_cutSign_36 : decode cX9_cutSign 36 = .ok (.getfield 55, 3) := by decide +kernel
theorem dX9_cutSign_39 : decode cX9_cutSign 39 = .ok (.iconst 1, 1) := by decide +kernel
theorem dX9_cutSign_40 : decode cX9_cutSign 40 = .ok (.iadd, 1) := by decide +kernel
theorem dX9_cutSign_41 : decode cX9_cutSign 41 = .ok (.putfield 55, 3) := by decide +kernel
theorem dX9_cutSign_44 : decode cX9_cutSign 44 = .ok (.iload_n 1, 1) := by decide +kernel
theorem dX9_cutSign_45 : decode cX9_cutSign 45 = .ok (.iload_n 3, 1) := by decide +kernel
theorem dX9_cutSign_46 : decode cX9_cutSign 46 = .ok (.invokestatic 84, 3) := by decide +kernel
theorem dX9_cutSign_49 : decode cX9_cutSign 49 = .ok (.istore 4, 2) := by decide +kernel
theorem dX9_cutSign_51 : decode cX9_cutSign 51 = .ok (.iload 4, 2) := by decide +kernel
theorem dX9_cutSign_53 : decode cX9_cutSign 53 = .ok (.iconst 1, 1) := by decide +kernel
theorem dX9_cutSign_54 : decode cX9_cutSign 54 = .ok (.if_icmp .ne 12, 3) := by decide +kernel
theorem dX9_cutSign_57 : decode cX9_cutSign 57 = .ok (.iload_n 1, 1) := by decide +kernel
theorem dX9_cutSign_58 : decode cX9_cutSign 58 = .ok (.invokestatic 87, 3) := by decide +kernel
theorem dX9_cutSign_61 : decode cX9_cutSign 61 = .ok (.istore 4, 2) := by decide +kernel
theorem dX9_cutSign_63 : decode cX9_cutSign 63 = .ok (.goto 13, 3) := by decide +kernel
theorem dX9_cutSign_66 : decode cX9_cutSign 66 = .ok (.aload_n 0, 1) := by decide +kernel
theorem dX9_cutSign_67 : decode cX9_cutSign 67 = .ok (.dup, 1) := by decide +kernel
theorem dX9_cutSign_68 : decode cX9_cutSign 68 = .ok (.getfield 55, 3) := by decide +kernel
theorem dX9_cutSign_71 : decode cX9_cutSign 71 = .ok (.iconst 1, 1) := by decide +kernel
theorem dX9_cutSign_72 : decode cX9_cutSign 72 = .ok (.iadd, 1) := by decide +kernel
theorem dX9_cutSign_73 : decode cX9_cutSign 73 = .ok (.putfield 55, 3) := by decide +kernel
theorem dX9_cutSign_76 : decode cX9_cutSign 76 = .ok (.aload_n 0, 1) := by decide +kernel
theorem dX9_cutSign_77 : decode cX9_cutSign 77 = .ok (.iload 4, 2) := by decide +kernel
theorem dX9_cutSign_79 : decode cX9_cutSign 79 = .ok (.iconst 0, 1) := by decide +kernel
theorem dX9_cutSign_80 : decode cX9_cutSign 80 = .ok (.iload_n 2, 1) := by decide +kernel
theorem dX9_cutSign_81 : decode cX9_cutSign 81 = .ok (.invokevirtual 75, 3) := by decide +kernel
theorem dX9_cutSign_84 : decode cX9_cutSign 84 = .ok (.return_, 1) := by decide +kernel
theorem dX9_sortOfPair_0 : decode cX9_sortOfPair 0 = .ok (.iload_n 0, 1) := by decide +kernel
theorem dX9_sortOfPair_1 : decode cX9_sortOfPair 1 = .ok (.bipush 60, 2) := by decide +kernel
theorem dX9_sortOfPair_3 : decode cX9_sortOfPair 3 = .ok (.if_icmp .ne 12, 3) := by decide +kernel
theorem dX9_sortOfPair_6 : decode cX9_sortOfPair 6 = .ok (.iload_n 1, 1) := by decide +kernel
theorem dX9_sortOfPair_7 : decode cX9_sortOfPair 7 = .ok (.bipush 61, 2) := by decide +kernel
theorem dX9_sortOfPair_9 : decode cX9_sortOfPair 9 = .ok (.if_icmp .ne 6, 3) := by decide +kernel
theorem dX9_sortOfPair_12 : decode cX9_sortOfPair 12 = .ok (.bipush 48, 2) := by decide +kernel
theorem dX9_sortOfPair_14 : decode cX9_sortOfPair 14 = .ok (.ireturn, 1) := by decide +kernel
theorem dX9_sortOfPair_15 : decode cX9_sortOfPair 15 = .ok (.iload_n 0, 1) := by decide +kernel
theorem dX9_sortOfPair_16 : decode cX9_sortOfPair 16 = .ok (.bipush 60, 2) := by decide +kernel
theorem dX9_sortOfPair_18 : decode cX9_sortOfPair 18 = .ok (.if_icmp .ne 12, 3) := by decide +kernel
theorem dX9_sortOfPair_21 : decode cX9_sortOfPair 21 = .ok (.iload_n 1, 1) := by decide +kernel
theorem dX9_sortOfPair_22 : decode cX9_sortOfPair 22 = .ok (.bipush 62, 2) := by decide +kernel
theorem dX9_sortOfPair_24 : decode cX9_sortOfPair 24 = .ok (.if_icmp .ne 6, 3) := by decide +kernel
theorem dX9_sortOfPair_27 : decode cX9_sortOfPair 27 = .ok (.bipush 50, 2) := by decide +kernel
theorem dX9_sortOfPair_29 : decode cX9_sortOfPair 29 = .ok (.ireturn, 1) := by decide +kernel
theorem dX9_sortOfPair_30 : decode cX9_sortOfPair 30 = .ok (.iload_n 0, 1) := by decide +kernel
theorem dX9_sortOfPair_31 : decode cX9_sortOfPair 31 = .ok (.bipush 62, 2) := by decide +kernel
theorem dX9_sortOfPair_33 : decode cX9_sortOfPair 33 = .ok (.if_icmp .ne 14, 3) := by decide +kernel
theorem dX9_sortOfPair_36 : decode cX9_sortOfPair 36 = .ok (.iload_n 1, 1) := by decide +kernel
theorem dX9_sortOfPair_37 : decode cX9_sortOfPair 37 = .ok (.bipush 61, 2) := by decide +kernel
theorem dX9_sortOfPair_39 : decode cX9_sortOfPair 39 = .ok (.if_icmp .ne 8, 3) := by decide +kernel
theorem dX9_sortOfPair_42 : decode cX9_sortOfPair 42 = .ok (.bipush 51, 2) := by decide +kernel
theorem dX9_sortOfPair_44 : decode cX9_sortOfPair 44 = .ok (.goto 4, 3) := by decide +kernel
theorem dX9_sortOfPair_47 : decode cX9_sortOfPair 47 = .ok (.iconst 1, 1) := by decide +kernel
theorem dX9_sortOfPair_48 : decode cX9_sortOfPair 48 = .ok (.ireturn, 1) := by decide +kernel
theorem dX9_sortOfSign_0 : decode cX9_sortOfSign 0 = .ok (.iload_n 0, 1) := by decide +kernel
theorem dX9_sortOfSign_1 : decode cX9_sortOfSign 1 = .ok (.tableswitch 137 40 62 #[110, 113, 122, 116, 137, 119, 137, 125, 137, 137, 137, 137, 137, 137, 137, 137, 137, 137, 137, 107, 128, 131, 134], 107) := by decide +kernel
theorem dX9_sortOfSign_108 : decode cX9_sortOfSign 108 = .ok (.bipush 40, 2) := by decide +kernel
theorem dX9_sortOfSign_110 : decode cX9_sortOfSign 110 = .ok (.ireturn, 1) := by decide +kernel
theorem dX9_sortOfSign_111 : decode cX9_sortOfSign 111 = .ok (.bipush 41, 2) := by decide +kernel
theorem dX9_sortOfSign_113 : decode cX9_sortOfSign 113 = .ok (.ireturn, 1) := by decide +kernel
theorem dX9_sortOfSign_114 : decode cX9_sortOfSign 114 = .ok (.bipush 42, 2) := by decide +kernel
theorem dX9_sortOfSign_116 : decode cX9_sortOfSign 116 = .ok (.ireturn, 1) := by decide +kernel
theorem dX9_sortOfSign_117 : decode cX9_sortOfSign 117 = .ok (.bipush 43, 2) := by decide +kernel
theorem dX9_sortOfSign_119 : decode cX9_sortOfSign 119 = .ok (.ireturn, 1) := by decide +kernel
theorem dX9_sortOfSign_120 : decode cX9_sortOfSign 120 = .ok (.bipush 44, 2) := by decide +kernel
theorem dX9_sortOfSign_122 : decode cX9_sortOfSign 122 = .ok (.ireturn, 1) := by decide +kernel
theorem dX9_sortOfSign_123 : decode cX9_sortOfSign 123 = .ok (.bipush 45, 2) := by decide +kernel
theorem dX9_sortOfSign_125 : decode cX9_sortOfSign 125 = .ok (.ireturn, 1) := by decide +kernel
theorem dX9_sortOfSign_126 : decode cX9_sortOfSign 126 = .ok (.bipush 46, 2) := by decide +kernel
theorem dX9_sortOfSign_128 : decode cX9_sortOfSign 128 = .ok (.ireturn, 1) := by decide +kernel
theorem dX9_sortOfSign_129 : decode cX9_sortOfSign 129 = .ok (.bipush 47, 2) := by decide +kernel
theorem dX9_sortOfSign_131 : decode cX9_sortOfSign 131 = .ok (.ireturn, 1) := by decide +kernel
theorem dX9_sortOfSign_132 : decode cX9_sortOfSign 132 = .ok (.bipush 49, 2) := by decide +kernel
theorem dX9_sortOfSign_134 : decode cX9_sortOfSign 134 = .ok (.ireturn, 1) := by decide +kernel
theorem dX9_sortOfSign_135 : decode cX9_sortOfSign 135 = .ok (.bipush 52, 2) := by decide +kernel
theorem dX9_sortOfSign_137 : decode cX9_sortOfSign 137 = .ok (.ireturn, 1) := by decide +kernel
theorem dX9_sortOfSign_138 : decode cX9_sortOfSign 138 = .ok (.iconst 1, 1) := by decide +kernel
theorem dX9_sortOfSign_139 : decode cX9_sortOfSign 139 = .ok (.ireturn, 1) := by decide +kernel
theorem dX9_addToken_0 : decode cX9_addToken 0 = .ok (.aload_n 0, 1) := by decide +kernel
theorem dX9_addToken_1 : decode cX9_addToken 1 = .ok (.getfield 52, 3) := by decide +kernel
theorem dX9_addToken_4 : decode cX9_addToken 4 = .ok (.sipush 700, 3) := by decide +kernel
theorem dX9_addToken_7 : decode cX9_addToken 7 = .ok (.if_icmp .ge 43, 3) := by decide +kernel
theorem dX9_addToken_10 : decode cX9_addToken 10 = .ok (.aload_n 0, 1) := by decide +kernel
theorem dX9_addToken_11 : decode cX9_addToken 11 = .ok (.getfield 15, 3) := by decide +kernel
theorem dX9_addToken_14 : decode cX9_addToken 14 = .ok (.aload_n 0, 1) := by decide +kernel
theorem dX9_addToken_15 : decode cX9_addToken 15 = .ok (.getfield 52, 3) := by decide +kernel
theorem dX9_addToken_18 : decode cX9_addToken 18 = .ok (.iload_n 1, 1) := by decide +kernel
theorem dX9_addToken_19 : decode cX9_addToken 19 = .ok (.iastore, 1) := by decide +kernel
theorem dX9_addToken_20 : decode cX9_addToken 20 = .ok (.aload_n 0, 1) := by decide +kernel
theorem dX9_addToken_21 : decode cX9_addToken 21 = .ok (.getfield 19, 3) := by decide +kernel
theorem dX9_addToken_24 : decode cX9_addToken 24 = .ok (.aload_n 0, 1) := by decide +kernel
theorem dX9_addToken_25 : decode cX9_addToken 25 = .ok (.getfield 52, 3) := by decide +kernel
theorem dX9_addToken_28 : decode cX9_addToken 28 = .ok (.iload_n 2, 1) := by decide +kernel
theorem dX9_addToken_29 : decode cX9_addToken 29 = .ok (.iastore, 1) := by decide +kernel
theorem dX9_addToken_30 : decode cX9_addToken 30 = .ok (.aload_n 0, 1) := by decide +kernel
theorem dX9_addToken_31 : decode cX9_addToken 31 = .ok (.getfield 22, 3) := by decide +kernel
theorem dX9_addToken_34 : decode cX9_addToken 34 = .ok (.aload_n 0, 1) := by decide +kernel
theorem dX9_addToken_35 : decode cX9_addToken 35 = .ok (.getfield 52, 3) := by decide +kernel
theorem dX9_addToken_38 : decode cX9_addToken 38 = .ok (.iload_n 3, 1) := by decide +kernel
theorem dX9_addToken_39 : decode cX9_addToken 39 = .ok (.iastore, 1) := by decide +kernel
theorem dX9_addToken_40 : decode cX9_addToken 40 = .ok (.aload_n 0, 1) := by decide +kernel
theorem dX9_addToken_41 : decode cX9_addToken 41 = .ok (.dup, 1) := by decide +kernel
theorem dX9_addToken_42 : decode cX9_addToken 42 = .ok (.getfield 52, 3) := by decide +kernel
theorem dX9_addToken_45 : decode cX9_addToken 45 = .ok (.iconst 1, 1) := by decide +kernel
theorem dX9_addToken_46 : decode cX9_addToken 46 = .ok (.iadd, 1) := by decide +kernel
theorem dX9_addToken_47 : decode cX9_addToken 47 = .ok (.putfield 52, 3) := by decide +kernel
theorem dX9_addToken_50 : decode cX9_addToken 50 = .ok (.return_, 1) := by decide +kernel
theorem dX9_sortOf_0 : decode cX9_sortOf 0 = .ok (.iload_n 1, 1) := by decide +kernel
theorem dX9_sortOf_1 : decode cX9_sortOf 1 = .ok (.ifCond .lt 20, 3) := by decide +kernel
theorem dX9_sortOf_4 : decode cX9_sortOf 4 = .ok (.iload_n 1, 1) := by decide +kernel
theorem dX9_sortOf_5 : decode cX9_sortOf 5 = .ok (.aload_n 0, 1) := by decide +kernel
theorem dX9_sortOf_6 : decode cX9_sortOf 6 = .ok (.getfield 52, 3) := by decide +kernel
theorem dX9_sortOf_9 : decode cX9_sortOf 9 = .ok (.if_icmp .ge 12, 3) := by decide +kernel
theorem dX9_sortOf_12 : decode cX9_sortOf 12 = .ok (.aload_n 0, 1) := by decide +kernel
theorem dX9_sortOf_13 : decode cX9_sortOf 13 = .ok (.getfield 15, 3) := by decide +kernel
theorem dX9_sortOf_16 : decode cX9_sortOf 16 = .ok (.iload_n 1, 1) := by decide +kernel
theorem dX9_sortOf_17 : decode cX9_sortOf 17 = .ok (.iaload, 1) := by decide +kernel
theorem dX9_sortOf_18 : decode cX9_sortOf 18 = .ok (.goto 4, 3) := by decide +kernel
theorem dX9_sortOf_21 : decode cX9_sortOf 21 = .ok (.iconst 0, 1) := by decide +kernel
theorem dX9_sortOf_22 : decode cX9_sortOf 22 = .ok (.ireturn, 1) := by decide +kernel
theorem dX9_valueOf_0 : decode cX9_valueOf 0 = .ok (.iload_n 1, 1) := by decide +kernel
theorem dX9_valueOf_1 : decode cX9_valueOf 1 = .ok (.ifCond .lt 20, 3) := by decide +kernel
theorem dX9_valueOf_4 : decode cX9_valueOf 4 = .ok (.iload_n 1, 1) := by decide +kernel
theorem dX9_valueOf_5 : decode cX9_valueOf 5 = .ok (.aload_n 0, 1) := by decide +kernel
theorem dX9_valueOf_6 : decode cX9_valueOf 6 = .ok (.getfield 52, 3) := by decide +kernel
theorem dX9_valueOf_9 : decode cX9_valueOf 9 = .ok (.if_icmp .ge 12, 3) := by decide +kernel
theorem dX9_valueOf_12 : decode cX9_valueOf 12 = .ok (.aload_n 0, 1) := by decide +kernel
theorem dX9_valueOf_13 : decode cX9_valueOf 13 = .ok (.getfield 19, 3) := by decide +kernel
theorem dX9_valueOf_16 : decode cX9_valueOf 16 = .ok (.iload_n 1, 1) := by decide +kernel
theorem dX9_valueOf_17 : decode cX9_valueOf 17 = .ok (.iaload, 1) := by decide +kernel
theorem dX9_valueOf_18 : decode cX9_valueOf 18 = .ok (.goto 4, 3) := by decide +kernel
theorem dX9_valueOf_21 : decode cX9_valueOf 21 = .ok (.iconst 0, 1) := by decide +kernel
theorem dX9_valueOf_22 : decode cX9_valueOf 22 = .ok (.ireturn, 1) := by decide +kernel
theorem dX9_placeOf_0 : decode cX9_placeOf 0 = .ok (.iload_n 1, 1) := by decide +kernel
theorem dX9_placeOf_1 : decode cX9_placeOf 1 = .ok (.ifCond .lt 20, 3) := by decide +kernel
theorem dX9_placeOf_4 : decode cX9_placeOf 4 = .ok (.iload_n 1, 1) := by decide +kernel
theorem dX9_placeOf_5 : decode cX9_placeOf 5 = .ok (.aload_n 0, 1) := by decide +kernel
theorem dX9_placeOf_6 : decode cX9_placeOf 6 = .ok (.getfield 52, 3) := by decide +kernel
theorem dX9_placeOf_9 : decode cX9_placeOf 9 = .ok (.if_icmp .ge 12, 3) := by decide +kernel
theorem dX9_placeOf_12 : decode cX9_placeOf 12 = .ok (.aload_n 0, 1) := by decide +kernel
theorem dX9_placeOf_13 : decode cX9_placeOf 13 = .ok (.getfield 22, 3) := by decide +kernel
theorem dX9_placeOf_16 : decode cX9_placeOf 16 = .ok (.iload_n 1, 1) := by decide +kernel
theorem dX9_placeOf_17 : decode cX9_placeOf 17 = .ok (.iaload, 1) := by decide +kernel
theorem dX9_placeOf_18 : decode cX9_placeOf 18 = .ok (.goto 7, 3) := by decide +kernel
theorem dX9_placeOf_21 : decode cX9_placeOf 21 = .ok (.aload_n 0, 1) := by decide +kernel
theorem dX9_placeOf_22 : decode cX9_placeOf 22 = .ok (.getfield 50, 3) := by decide +kernel
theorem dX9_placeOf_25 : decode cX9_placeOf 25 = .ok (.ireturn, 1) := by decide +kernel
theorem dX9_isLetter_0 : decode cX9_isLetter 0 = .ok (.iload_n 0, 1) := by decide +kernel
theorem dX9_isLetter_1 : decode cX9_isLetter 1 = .ok (.bipush 97, 2) := by decide +kernel
theorem dX9_isLetter_3 : decode cX9_isLetter 3 = .ok (.if_icmp .lt 13, 3) := by decide +kernel
theorem dX9_isLetter_6 : decode cX9_isLetter 6 = .ok (.iload_n 0, 1) := by decide +kernel
theorem dX9_isLetter_7 : decode cX9_isLetter 7 = .ok (.bipush 122, 2) := by decide +kernel
theorem dX9_isLetter_9 : decode cX9_isLetter 9 = .ok (.if_icmp .gt 7, 3) := by decide +kernel
theorem dX9_isLetter_12 : decode cX9_isLetter 12 = .ok (.iconst 1, 1) := by decide +kernel
theorem dX9_isLetter_13 : decode cX9_isLetter 13 = .ok (.goto 4, 3) := by decide +kernel
theorem dX9_isLetter_16 : decode cX9_isLetter 16 = .ok (.iconst 0, 1) := by decide +kernel
theorem dX9_isLetter_17 : decode cX9_isLetter 17 = .ok (.ireturn, 1) := by decide +kernel
theorem dX9_isDigit_0 : decode cX9_isDigit 0 = .ok (.iload_n 0, 1) := by decide +kernel
theorem dX9_isDigit_1 : decode cX9_isDigit 1 = .ok (.bipush 48, 2) := by decide +kernel
theorem dX9_isDigit_3 : decode cX9_isDigit 3 = .ok (.if_icmp .lt 13, 3) := by decide +kernel
theorem dX9_isDigit_6 : decode cX9_isDigit 6 = .ok (.iload_n 0, 1) := by decide +kernel
theorem dX9_isDigit_7 : decode cX9_isDigit 7 = .ok (.bipush 57, 2) := by decide +kernel
theorem dX9_isDigit_9 : decode cX9_isDigit 9 = .ok (.if_icmp .gt 7, 3) := by decide +kernel
theorem dX9_isDigit_12 : decode cX9_isDigit 12 = .ok (.iconst 1, 1) := by decide +kernel
theorem dX9_isDigit_13 : decode cX9_isDigit 13 = .ok (.goto 4, 3) := by decide +kernel
theorem dX9_isDigit_16 : decode cX9_isDigit 16 = .ok (.iconst 0, 1) := by decide +kernel
theorem dX9_isDigit_17 : decode cX9_isDigit 17 = .ok (.ireturn, 1) := by decide +kernel
theorem dX10_init_0 : decode cX10_init 0 = .ok (.aload_n 0, 1) := by decide +kernel
theorem dX10_init_1 : decode cX10_init 1 = .ok (.invokespecial 3, 3) := by decide +kernel
theorem dX10_init_4 : decode cX10_init 4 = .ok (.aload_n 0, 1) := by decide +kernel
theorem dX10_init_5 : decode cX10_init 5 = .ok (.bipush 8, 2) := by decide +kernel
theorem dX10_init_7 : decode cX10_init 7 = .ok (.newarray .int, 2) := by decide +kernel
theorem dX10_init_9 : decode cX10_init 9 = .ok (.putfield 9, 3) := by decide +kernel
theorem dX10_init_12 : decode cX10_init 12 = .ok (.aload_n 0, 1) := by decide +kernel
theorem dX10_init_13 : decode cX10_init 13 = .ok (.bipush 8, 2) := by decide +kernel
theorem dX10_init_15 : decode cX10_init 15 = .ok (.newarray .int, 2) := by decide +kernel
theorem dX10_init_17 : decode cX10_init 17 = .ok (.putfield 15, 3) := by decide +kernel
theorem dX10_init_20 : decode cX10_init 20 = .ok (.aload_n 0, 1) := by decide +kernel
theorem dX10_init_21 : decode cX10_init 21 = .ok (.sipush 488, 3) := by decide +kernel
theorem dX10_init_24 : decode cX10_init 24 = .ok (.newarray .int, 2) := by decide +kernel
theorem dX10_init_26 : decode cX10_init 26 = .ok (.putfield 18, 3) := by decide +kernel
theorem dX10_init_29 : decode cX10_init 29 = .ok (.aload_n 0, 1) := by decide +kernel
theorem dX10_init_30 : decode cX10_init 30 = .ok (.sipush 488, 3) := by decide +kernel
theorem dX10_init_33 : decode cX10_init 33 = .ok (.newarray .int, 2) := by decide +kernel
theorem dX10_init_35 : decode cX10_init 35 = .ok (.putfield 21, 3) := by decide +kernel
theorem dX10_init_38 : decode cX10_init 38 = .ok (.aload_n 0, 1) := by decide +kernel
theorem dX10_init_39 : decode cX10_init 39 = .ok (.aload_n 1, 1) := by decide +kernel
theorem dX10_init_40 : decode cX10_init 40 = .ok (.putfield 24, 3) := by decide +kernel
theorem dX10_init_43 : decode cX10_init 43 = .ok (.aload_n 0, 1) := by decide +kernel
theorem dX10_init_44 : decode cX10_init 44 = .ok (.aload_n 2, 1) := by decide +kernel
theorem dX10_init_45 : decode cX10_init 45 = .ok (.putfield 28, 3) := by decide +kernel
theorem dX10_init_48 : decode cX10_init 48 = .ok (.aload_n 0, 1) := by decide +kernel
theorem dX10_init_49 : decode cX10_init 49 = .ok (.aload_n 3, 1) := by decide +kernel
theorem dX10_init_50 : decode cX10_init 50 = .ok (.putfield 32, 3) := by decide +kernel
theorem dX10_init_53 : decode cX10_init 53 = .ok (.return_, 1) := by decide +kernel
set_option maxRecDepth 20000 in
theorem ggX10_plan_X10_startBay : GoodIn wsX10_plan wsX10_startBay := goodIn_r _ [15, 5, 127, 128, 129, 130, 131, 132, 133, 134, 135, 136, 137, 138, 139, 140, 141, 142, 143, 144, 145] rfl (by decide +kernel)
set_option maxRecDepth 20000 in
theorem gX10_plan_X10_startBay : GoodIn wsX10_plan (wsV RX10 54 RX10 yX10_startBay wsX10_startBay) := goodIn_app (goodIn_r _ [11, 12, 13, 14] rfl (by decide +kernel)) ggX10_plan_X10_startBay
set_option maxRecDepth 20000 in
theorem ggX10_plan_X10_reach : GoodIn wsX10_plan wsX10_reach := goodIn_r _ [19, 5, 3, 4, 127, 128, 129, 130, 131, 132, 133, 134, 135, 136, 137, 138, 139, 140, 141, 142, 143, 144, 145] rfl (by decide +kernel)
set_option maxRecDepth 20000 in
theorem gX10_plan_X10_reach : GoodIn wsX10_plan (wsV RX10 58 RX10 yX10_reach wsX10_reach) := goodIn_app (goodIn_r _ [16, 17, 18, 14] rfl (by decide +kernel)) ggX10_plan_X10_reach
set_option maxRecDepth 20000 in
theorem ggX10_plan_X10_wake : GoodIn wsX10_plan wsX10_wake := goodIn_r _ [23, 1, 24, 25, 8, 26, 127, 128, 129, 130, 131, 132, 133] rfl (by decide +kernel)
set_option maxRecDepth 20000 in
theorem gX10_plan_X10_wake : GoodIn wsX10_plan (wsV RX10 62 RX10 yX10_wake wsX10_wake) := goodIn_app (goodIn_r _ [20, 21, 22, 14] rfl (by decide +kernel)) ggX10_plan_X10_wake
set_option maxRecDepth 20000 in
theorem ggX10_plan_X10_goOn : GoodIn wsX10_plan wsX10_goOn := goodIn_r _ [30, 1, 10, 31, 32, 33, 14, 34, 2, 35, 5, 36, 37, 38, 39, 40, 41, 42, 43, 44, 45, 46, 47, 48, 49, 50, 51, 52, 53, 54, 55, 56, 57, 58, 59, 60, 61, 62, 63, 64, 25, 8, 26, 65, 7, 9, 66, 67, 68, 69, 70, 71, 72, 73, 74, 75, 76, 77, 78, 79, 80, 81, 82, 83, 84, 85, 86, 87, 88, 89, 90, 91, 92, 93, 94, 95, 96, 97, 98, 99, 100, 101, 102, 103, 104, 105, 106, 107, 108, 109, 110, 111, 112, 113, 114, 115, 116, 20, 21, 22, 23, 24, 117, 118, 119, 120, 121, 122, 123, 124, 125, 126, 16, 17, 18, 19, 3, 4, 127, 128, 129, 130, 131, 132, 133, 146, 147, 148, 149, 150, 151, 152, 153, 154, 155, 156, 157, 158, 159, 160, 134, 135, 136, 137, 138, 139, 140, 141, 142, 143, 144, 145, 161, 162, 163, 164, 165, 166, 167, 168, 169, 170, 171, 172, 173, 174, 175, 176, 177, 178, 179] rfl (by decide +kernel)
set_option maxRecDepth 20000 in
theorem gX10_plan_X10_goOn : GoodIn wsX10_plan (wsV RX10 70 RX10 yX10_goOn wsX10_goOn) := goodIn_app (goodIn_r _ [27, 28, 29, 14] rfl (by decide +kernel)) ggX10_plan_X10_goOn
theorem dX10_plan_0 : decode cX10_plan 0 = .ok (.iconst 0, 1) := by decide +kernel
theorem dX10_plan_1 : decode cX10_plan 1 = .ok (.istore_n 1, 1) := by decide +kernel
theorem dX10_plan_2 : decode cX10_plan 2 = .ok (.iload_n 1, 1) := by decide +kernel
theorem dX10_plan_3 : decode cX10_plan 3 = .ok (.aload_n 0, 1) := by decide +kernel
theorem dX10_plan_4 : decode cX10_plan 4 = .ok (.getfield 18, 3) := by decide +kernel
theorem dX10_plan_7 : decode cX10_plan 7 = .ok (.arraylength, 1) := by decide +kernel
theorem dX10_plan_8 : decode cX10_plan 8 = .ok (.if_icmp .ge 25, 3) := by decide +kernel
theorem dX10_plan_11 : decode cX10_plan 11 = .ok (.aload_n 0, 1) := by decide +kernel
theorem dX10_plan_12 : decode cX10_plan 12 = .ok (.getfield 18, 3) := by decide +kernel
theorem dX10_plan_15 : decode cX10_plan 15 = .ok (.iload_n 1, 1) := by decide +kernel
theorem dX10_plan_16 : decode cX10_plan 16 = .ok (.sipush 1000, 3) := by decide +kernel
theorem dX10_plan_19 : decode cX10_plan 19 = .ok (.iastore, 1) := by decide +kernel
theorem dX10_plan_20 : decode cX10_plan 20 = .ok (.aload_n 0, 1) := by decide +kernel
theorem dX10_plan_21 : decode cX10_plan 21 = .ok (.getfield 21, 3) := by decide +kernel
theorem dX10_plan_24 : decode cX10_plan 24 = .ok (.iload_n 1, 1) := by decide +kernel
theorem dX10_plan_25 : decode cX10_plan 25 = .ok (.iconst 0, 1) := by decide +kernel
theorem dX10_plan_26 : decode cX10_plan 26 = .ok (.iastore, 1) := by decide +kernel
theorem dX10_plan_27 : decode cX10_plan 27 = .ok (.iinc 1 1, 3) := by decide +kernel
theorem dX10_plan_30 : decode cX10_plan 30 = .ok (.goto (-28), 3) := by decide +kernel
theorem dX10_plan_33 : decode cX10_plan 33 = .ok (.iconst 0, 1) := by decide +kernel
theorem dX10_plan_34 : decode cX10_plan 34 = .ok (.istore_n 1, 1) := by decide +kernel
theorem dX10_plan_35 : decode cX10_plan 35 = .ok (.iload_n 1, 1) := by decide +kernel
theorem dX10_plan_36 : decode cX10_plan 36 = .ok (.bipush 8, 2) := by decide +kernel
theorem dX10_plan_38 : decode cX10_plan 38 = .ok (.if_icmp .ge 25, 3) := by decide +kernel
theorem dX10_plan_41 : decode cX10_plan 41 = .ok (.aload_n 0, 1) := by decide +kernel
theorem dX10_plan_42 : decode cX10_plan 42 = .ok (.getfield 9, 3) := by decide +kernel
theorem dX10_plan_45 : decode cX10_plan 45 = .ok (.iload_n 1, 1) := by decide +kernel
theorem dX10_plan_46 : decode cX10_plan 46 = .ok (.iconst (-1), 1) := by decide +kernel
theorem dX10_plan_47 : decode cX10_plan 47 = .ok (.iastore, 1) := by decide +kernel
theorem dX10_plan_48 : decode cX10_plan 48 = .ok (.aload_n 0, 1) := by decide +kernel
theorem dX10_plan_49 : decode cX10_plan 49 = .ok (.getfield 15, 3) := by decide +kernel
theorem dX10_plan_52 : decode cX10_plan 52 = .ok (.iload_n 1, 1) := by decide +kernel
theorem dX10_plan_53 : decode cX10_plan 53 = .ok (.sipush 1000, 3) := by decide +kernel
theorem dX10_plan_56 : decode cX10_plan 56 = .ok (.iastore, 1) := by decide +kernel
theorem dX10_plan_57 : decode cX10_plan 57 = .ok (.iinc 1 1, 3) := by decide +kernel
theorem dX10_plan_60 : decode cX10_plan 60 = .ok (.goto (-25), 3) := by decide +kernel
theorem dX10_plan_63 : decode cX10_plan 63 = .ok (.aload_n 0, 1) := by decide +kernel
theorem dX10_plan_64 : decode cX10_plan 64 = .ok (.getfield 28, 3) := by decide +kernel
theorem dX10_plan_67 : decode cX10_plan 67 = .ok (.getfield 36, 3) := by decide +kernel
theorem dX10_plan_70 : decode cX10_plan 70 = .ok (.iconst (-1), 1) := by decide +kernel
theorem dX10_plan_71 : decode cX10_plan 71 = .ok (.if_icmp .ne 7, 3) := by decide +kernel
theorem dX10_plan_74 : decode cX10_plan 74 = .ok (.iconst 0, 1) := by decide +kernel
theorem dX10_plan_75 : decode cX10_plan 75 = .ok (.goto 22, 3) := by decide +kernel
theorem dX10_plan_78 : decode cX10_plan 78 = .ok (.iconst 0, 1) := by decide +kernel
theorem dX10_plan_79 : decode cX10_plan 79 = .ok (.aload_n 0, 1) := by decide +kernel
theorem dX10_plan_80 : decode cX10_plan 80 = .ok (.getfield 28, 3) := by decide +kernel
theorem dX10_plan_83 : decode cX10_plan 83 = .ok (.getfield 42, 3) := by decide +kernel
theorem dX10_plan_86 : decode cX10_plan 86 = .ok (.aload_n 0, 1) := by decide +kernel
theorem dX10_plan_87 : decode cX10_plan 87 = .ok (.getfield 28, 3) := by decide +kernel
theorem dX10_plan_90 : decode cX10_plan 90 = .ok (.getfield 45, 3) := by decide +kernel
theorem dX10_plan_93 : decode cX10_plan 93 = .ok (.isub, 1) := by decide +kernel
theorem dX10_plan_94 : decode cX10_plan 94 = .ok (.invokestatic 48, 3) := by decide +kernel
theorem dX10_plan_97 : decode cX10_plan 97 = .ok (.istore_n 1, 1) := by decide +kernel
theorem dX10_plan_98 : decode cX10_plan 98 = .ok (.aload_n 0, 1) := by decide +kernel
theorem dX10_plan_99 : decode cX10_plan 99 = .ok (.aload_n 0, 1) := by decide +kernel
theorem dX10_plan_100 : decode cX10_plan 100 = .ok (.invokevirtual 54, 3) := by decide +kernel
theorem dX10_plan_103 : decode cX10_plan 103 = .ok (.iload_n 1, 1) := by decide +kernel
theorem dX10_plan_104 : decode cX10_plan 104 = .ok (.iconst 0, 1) := by decide +kernel
theorem dX10_plan_105 : decode cX10_plan 105 = .ok (.invokevirtual 58, 3) := by decide +kernel
theorem dX10_plan_108 : decode cX10_plan 108 = .ok (.aload_n 0, 1) := by decide +kernel
theorem dX10_plan_109 : decode cX10_plan 109 = .ok (.aload_n 0, 1) := by decide +kernel
theorem dX10_plan_110 : decode cX10_plan 110 = .ok (.invokevirtual 54, 3) := by decide +kernel
theorem dX10_plan_113 : decode cX10_plan 113 = .ok (.iload_n 1, 1) := by decide +kernel
theorem dX10_plan_114 : decode cX10_plan 114 = .ok (.iconst 0, 1) := by decide +kernel
theorem dX10_plan_115 : decode cX10_plan 115 = .ok (.invokevirtual 62, 3) := by decide +kernel
theorem dX10_plan_118 : decode cX10_plan 118 = .ok (.iload_n 1, 1) := by decide +kernel
theorem dX10_plan_119 : decode cX10_plan 119 = .ok (.istore_n 2, 1) := by decide +kernel
theorem dX10_plan_120 : decode cX10_plan 120 = .ok (.iload_n 2, 1) := by decide +kernel
theorem dX10_plan_121 : decode cX10_plan 121 = .ok (.bipush 60, 2) := by decide +kernel
theorem dX10_plan_123 : decode cX10_plan 123 = .ok (.if_icmp .gt 57, 3) := by decide +kernel
theorem dX10_plan_126 : decode cX10_plan 126 = .ok (.iconst 0, 1) := by decide +kernel
theorem dX10_plan_127 : decode cX10_plan 127 = .ok (.istore_n 3, 1) := by decide +kernel
theorem dX10_plan_128 : decode cX10_plan 128 = .ok (.iload_n 3, 1) := by decide +kernel
theorem dX10_plan_129 : decode cX10_plan 129 = .ok (.aload_n 0, 1) := by decide +kernel
theorem dX10_plan_130 : decode cX10_plan 130 = .ok (.getfield 24, 3) := by decide +kernel
theorem dX10_plan_133 : decode cX10_plan 133 = .ok (.getfield 65, 3) := by decide +kernel
theorem dX10_plan_136 : decode cX10_plan 136 = .ok (.if_icmp .ge 38, 3) := by decide +kernel
theorem dX10_plan_139 : decode cX10_plan 139 = .ok (.iload_n 3, 1) := by decide +kernel
theorem dX10_plan_140 : decode cX10_plan 140 = .ok (.bipush 8, 2) := by decide +kernel
theorem dX10_plan_142 : decode cX10_plan 142 = .ok (.if_icmp .ge 32, 3) := by decide +kernel
theorem dX10_plan_145 : decode cX10_plan 145 = .ok (.aload_n 0, 1) := by decide +kernel
theorem dX10_plan_146 : decode cX10_plan 146 = .ok (.getfield 18, 3) := by decide +kernel
theorem dX10_plan_149 : decode cX10_plan 149 = .ok (.iload_n 2, 1) := by decide +kernel
theorem dX10_plan_150 : decode cX10_plan 150 = .ok (.bipush 8, 2) := by decide +kernel
theorem dX10_plan_152 : decode cX10_plan 152 = .ok (.imul, 1) := by decide +kernel
theorem dX10_plan_153 : decode cX10_plan 153 = .ok (.iload_n 3, 1) := by decide +kernel
theorem dX10_plan_154 : decode cX10_plan 154 = .ok (.iadd, 1) := by decide +kernel
theorem dX10_plan_155 : decode cX10_plan 155 = .ok (.iaload, 1) := by decide +kernel
theorem dX10_plan_156 : decode cX10_plan 156 = .ok (.sipush 1000, 3) := by decide +kernel
theorem dX10_plan_159 : decode cX10_plan 159 = .ok (.if_icmp .eq 9, 3) := by decide +kernel
theorem dX10_plan_162 : decode cX10_plan 162 = .ok (.aload_n 0, 1) := by decide +kernel
theorem dX10_plan_163 : decode cX10_plan 163 = .ok (.iload_n 3, 1) := by decide +kernel
theorem dX10_plan_164 : decode cX10_plan 164 = .ok (.iload_n 2, 1) := by decide +kernel
theorem dX10_plan_165 : decode cX10_plan 165 = .ok (.invokevirtual 70, 3) := by decide +kernel
theorem dX10_plan_168 : decode cX10_plan 168 = .ok (.iinc 3 1, 3) := by decide +kernel
theorem dX10_plan_171 : decode cX10_plan 171 = .ok (.goto (-43), 3) := by decide +kernel
theorem dX10_plan_174 : decode cX10_plan 174 = .ok (.iinc 2 1, 3) := by decide +kernel
theorem dX10_plan_177 : decode cX10_plan 177 = .ok (.goto (-57), 3) := by decide +kernel
theorem dX10_plan_180 : decode cX10_plan 180 = .ok (.return_, 1) := by decide +kernel
theorem dX10_startBay_0 : decode cX10_startBay 0 = .ok (.aload_n 0, 1) := by decide +kernel
theorem dX10_startBay_1 : decode cX10_startBay 1 = .ok (.getfield 28, 3) := by decide +kernel
theorem dX10_startBay_4 : decode cX10_startBay 4 = .ok (.getfield 36, 3) := by decide +kernel
theorem dX10_startBay_7 : decode cX10_startBay 7 = .ok (.iconst (-1), 1) := by decide +kernel
theorem dX10_startBay_8 : decode cX10_startBay 8 = .ok (.if_icmp .eq 13, 3) := by decide +kernel
theorem dX10_startBay_11 : decode cX10_startBay 11 = .ok (.aload_n 0, 1) := by decide +kernel
theorem dX10_startBay_12 : decode cX10_startBay 12 = .ok (.getfield 28, 3) := by decide +kernel
theorem dX10_startBay_15 : decode cX10_startBay 15 = .ok (.getfield 36, 3) := by decide +kernel
theorem dX10_startBay_18 : decode cX10_startBay 18 = .ok (.goto 10, 3) := by decide +kernel
theorem dX10_startBay_21 : decode cX10_startBay 21 = .ok (.aload_n 0, 1) := by decide +kernel
theorem dX10_startBay_22 : decode cX10_startBay 22 = .ok (.getfield 28, 3) := by decide +kernel
theorem dX10_startBay_25 : decode cX10_startBay 25 = .ok (.getfield 74, 3) := by decide +kernel
theorem dX10_startBay_28 : decode cX10_startBay 28 = .ok (.ireturn, 1) := by decide +kernel
set_option maxRecDepth 20000 in
theorem ggX10_goOn_X10_holdsAt : GoodIn wsX10_goOn wsX10_holdsAt := goodIn_r _ [7, 8, 9, 10, 11, 12, 13, 14, 15, 16, 17, 18, 19, 20, 21, 22, 23, 24, 25, 26, 27, 28, 29, 30, 31, 32, 33, 34, 35, 36, 37, 38, 39, 40, 41, 42, 43, 44, 45, 46, 47, 48, 49, 50, 51, 52, 53, 54, 55, 56, 57, 58, 59, 60, 61, 62, 63, 64, 65, 66, 67, 68, 69, 70, 71, 72, 73, 74, 75, 76, 77, 78, 79, 80, 81, 82, 83, 84, 85, 86, 87, 88, 89, 90, 91, 92, 93, 94, 95, 96, 118, 119, 120, 121, 122, 123, 124, 140, 141, 142, 143, 144, 145, 146, 147, 148, 149, 150, 151, 152, 153, 154, 155, 156, 125, 126, 127, 128, 129, 130, 131, 132, 133, 134, 135, 136, 137, 138, 139, 157, 158, 159, 160, 161, 162, 163, 164, 165, 166, 167, 168, 169, 170] rfl (by decide +kernel)
set_option maxRecDepth 20000 in
theorem gX10_goOn_X10_holdsAt : GoodIn wsX10_goOn (wsV RX10 77 RX10 yX10_holdsAt wsX10_holdsAt) := goodIn_app (goodIn_r _ [3, 4, 5, 6] rfl (by decide +kernel)) ggX10_goOn_X10_holdsAt
set_option maxRecDepth 20000 in
theorem ggX10_goOn_X10_wake : GoodIn wsX10_goOn wsX10_wake := goodIn_r _ [100, 1, 101, 40, 41, 42, 118, 119, 120, 121, 122, 123, 124] rfl (by decide +kernel)
set_option maxRecDepth 20000 in
theorem gX10_goOn_X10_wake : GoodIn wsX10_goOn (wsV RX10 62 RX10 yX10_wake wsX10_wake) := goodIn_app (goodIn_r _ [97, 98, 99, 6] rfl (by decide +kernel)) ggX10_goOn_X10_wake
set_option maxRecDepth 20000 in
theorem ggX10_goOn_X0_daysBetween : GoodIn wsX10_goOn wsX0_daysBetween := goodIn_r _ [105, 106, 107, 108, 109, 49, 110, 111, 125, 126, 127, 128, 129, 130, 131, 132, 133, 134, 135, 136, 137, 138, 139] rfl (by decide +kernel)
set_option maxRecDepth 20000 in
theorem gX10_goOn_X0_daysBetween : GoodIn wsX10_goOn (wsV RX10 81 RX0 yX0_daysBetween wsX0_daysBetween) := goodIn_app (goodIn_r _ [102, 103, 104, 49] rfl (by decide +kernel)) ggX10_goOn_X0_daysBetween
set_option maxRecDepth 20000 in
theorem ggX10_goOn_X10_reach : GoodIn wsX10_goOn wsX10_reach := goodIn_r _ [115, 10, 116, 117, 118, 119, 120, 121, 122, 123, 124, 140, 141, 142, 143, 144, 145, 146, 147, 148, 149, 150, 151] rfl (by decide +kernel)
set_option maxRecDepth 20000 in
theorem gX10_goOn_X10_reach : GoodIn wsX10_goOn (wsV RX10 58 RX10 yX10_reach wsX10_reach) := goodIn_app (goodIn_r _ [112, 113, 114, 6] rfl (by decide +kernel)) ggX10_goOn_X10_reach
theorem dX10_goOn_0 : decode cX10_goOn 0 = .ok (.aload_n 0, 1) := by decide +kernel
theorem dX10_goOn_1 : decode cX10_goOn 1 = .ok (.getfield 18, 3) := by decide +kernel
theorem dX10_goOn_4 : decode cX10_goOn 4 = .ok (.iload_n 2, 1) := by decide +kernel
theorem dX10_goOn_5 : decode cX10_goOn 5 = .ok (.bipush 8, 2) := by decide +kernel
theorem dX10_goOn_7 : decode cX10_goOn 7 = .ok (.imul, 1) := by decide +kernel
theorem dX10_goOn_8 : decode cX10_goOn 8 = .ok (.iload_n 1, 1) := by decide +kernel
theorem dX10_goOn_9 : decode cX10_goOn 9 = .ok (.iadd, 1) := by decide +kernel
theorem dX10_goOn_10 : decode cX10_goOn 10 = .ok (.iaload, 1) := by decide +kernel
theorem dX10_goOn_11 : decode cX10_goOn 11 = .ok (.istore_n 3, 1) := by decide +kernel
theorem dX10_goOn_12 : decode cX10_goOn 12 = .ok (.aload_n 0, 1) := by decide +kernel
theorem dX10_goOn_13 : decode cX10_goOn 13 = .ok (.iload_n 1, 1) := by decide +kernel
theorem dX10_goOn_14 : decode cX10_goOn 14 = .ok (.iload_n 2, 1) := by decide +kernel
theorem dX10_goOn_15 : decode cX10_goOn 15 = .ok (.invokevirtual 77, 3) := by decide +kernel
theorem dX10_goOn_18 : decode cX10_goOn 18 = .ok (.ifCond .eq 12, 3) := by decide +kernel
theorem dX10_goOn_21 : decode cX10_goOn 21 = .ok (.aload_n 0, 1) := by decide +kernel
theorem dX10_goOn_22 : decode cX10_goOn 22 = .ok (.iload_n 1, 1) := by decide +kernel
theorem dX10_goOn_23 : decode cX10_goOn 23 = .ok (.iload_n 2, 1) := by decide +kernel
theorem dX10_goOn_24 : decode cX10_goOn 24 = .ok (.iconst 1, 1) := by decide +kernel
theorem dX10_goOn_25 : decode cX10_goOn 25 = .ok (.iadd, 1) := by decide +kernel
theorem dX10_goOn_26 : decode cX10_goOn 26 = .ok (.iload_n 3, 1) := by decide +kernel
theorem dX10_goOn_27 : decode cX10_goOn 27 = .ok (.invokevirtual 62, 3) := by decide +kernel
theorem dX10_goOn_30 : decode cX10_goOn 30 = .ok (.iconst 0, 1) := by decide +kernel
theorem dX10_goOn_31 : decode cX10_goOn 31 = .ok (.istore 4, 2) := by decide +kernel
theorem dX10_goOn_33 : decode cX10_goOn 33 = .ok (.iload 4, 2) := by decide +kernel
theorem dX10_goOn_35 : decode cX10_goOn 35 = .ok (.aload_n 0, 1) := by decide +kernel
theorem dX10_goOn_36 : decode cX10_goOn 36 = .ok (.getfield 24, 3) := by decide +kernel
theorem dX10_goOn_39 : decode cX10_goOn 39 = .ok (.getfield 65, 3) := by decide +kernel
theorem dX10_goOn_42 : decode cX10_goOn 42 = .ok (.if_icmp .ge 79, 3) := by decide +kernel
theorem dX10_goOn_45 : decode cX10_goOn 45 = .ok (.aload_n 0, 1) := by decide +kernel
theorem dX10_goOn_46 : decode cX10_goOn 46 = .ok (.getfield 24, 3) := by decide +kernel
theorem dX10_goOn_49 : decode cX10_goOn 49 = .ok (.iload_n 1, 1) := by decide +kernel
theorem dX10_goOn_50 : decode cX10_goOn 50 = .ok (.iload 4, 2) := by decide +kernel
theorem dX10_goOn_52 : decode cX10_goOn 52 = .ok (.invokevirtual 81, 3) := by decide +kernel
theorem dX10_goOn_55 : decode cX10_goOn 55 = .ok (.istore 5, 2) := by decide +kernel
theorem dX10_goOn_57 : decode cX10_goOn 57 = .ok (.iload 5, 2) := by decide +kernel
theorem dX10_goOn_59 : decode cX10_goOn 59 = .ok (.ifCond .le 56, 3) := by decide +kernel
theorem dX10_goOn_62 : decode cX10_goOn 62 = .ok (.iload 5, 2) := by decide +kernel
theorem dX10_goOn_64 : decode cX10_goOn 64 = .ok (.aload_n 0, 1) := by decide +kernel
theorem dX10_goOn_65 : decode cX10_goOn 65 = .ok (.getfield 24, 3) := by decide +kernel
theorem dX10_goOn_68 : decode cX10_goOn 68 = .ok (.getfield 84, 3) := by decide +kernel
theorem dX10_goOn_71 : decode cX10_goOn 71 = .ok (.if_icmp .gt 44, 3) := by decide +kernel
theorem dX10_goOn_74 : decode cX10_goOn 74 = .ok (.aload_n 0, 1) := by decide +kernel
theorem dX10_goOn_75 : decode cX10_goOn 75 = .ok (.iload 4, 2) := by decide +kernel
theorem dX10_goOn_77 : decode cX10_goOn 77 = .ok (.iload_n 2, 1) := by decide +kernel
theorem dX10_goOn_78 : decode cX10_goOn 78 = .ok (.iload 5, 2) := by decide +kernel
theorem dX10_goOn_80 : decode cX10_goOn 80 = .ok (.iadd, 1) := by decide +kernel
theorem dX10_goOn_81 : decode cX10_goOn 81 = .ok (.invokevirtual 77, 3) := by decide +kernel
theorem dX10_goOn_84 : decode cX10_goOn 84 = .ok (.ifCond .eq 31, 3) := by decide +kernel
theorem dX10_goOn_87 : decode cX10_goOn 87 = .ok (.aload_n 0, 1) := by decide +kernel
theorem dX10_goOn_88 : decode cX10_goOn 88 = .ok (.iload 4, 2) := by decide +kernel
theorem dX10_goOn_90 : decode cX10_goOn 90 = .ok (.iload_n 2, 1) := by decide +kernel
theorem dX10_goOn_91 : decode cX10_goOn 91 = .ok (.iload 5, 2) := by decide +kernel
theorem dX10_goOn_93 : decode cX10_goOn 93 = .ok (.iadd, 1) := by decide +kernel
theorem dX10_goOn_94 : decode cX10_goOn 94 = .ok (.iload_n 3, 1) := by decide +kernel
theorem dX10_goOn_95 : decode cX10_goOn 95 = .ok (.iconst 1, 1) := by decide +kernel
theorem dX10_goOn_96 : decode cX10_goOn 96 = .ok (.iadd, 1) := by decide +kernel
theorem dX10_goOn_97 : decode cX10_goOn 97 = .ok (.invokevirtual 58, 3) := by decide +kernel
theorem dX10_goOn_100 : decode cX10_goOn 100 = .ok (.aload_n 0, 1) := by decide +kernel
theorem dX10_goOn_101 : decode cX10_goOn 101 = .ok (.iload 4, 2) := by decide +kernel
theorem dX10_goOn_103 : decode cX10_goOn 103 = .ok (.iload_n 2, 1) := by decide +kernel
theorem dX10_goOn_104 : decode cX10_goOn 104 = .ok (.iload 5, 2) := by decide +kernel
theorem dX10_goOn_106 : decode cX10_goOn 106 = .ok (.iadd, 1) := by decide +kernel
theorem dX10_goOn_107 : decode cX10_goOn 107 = .ok (.iconst 1, 1) := by decide +kernel
theorem dX10_goOn_108 : decode cX10_goOn 108 = .ok (.iadd, 1) := by decide +kernel
theorem dX10_goOn_109 : decode cX10_goOn 109 = .ok (.iload_n 3, 1) := by decide +kernel
theorem dX10_goOn_110 : decode cX10_goOn 110 = .ok (.iconst 1, 1) := by decide +kernel
theorem dX10_goOn_111 : decode cX10_goOn 111 = .ok (.iadd, 1) := by decide +kernel
theorem dX10_goOn_112 : decode cX10_goOn 112 = .ok (.invokevirtual 62, 3) := by decide +kernel
theorem dX10_goOn_115 : decode cX10_goOn 115 = .ok (.iinc 4 1, 3) := by decide +kernel
theorem dX10_goOn_118 : decode cX10_goOn 118 = .ok (.goto (-85), 3) := by decide +kernel
theorem dX10_goOn_121 : decode cX10_goOn 121 = .ok (.return_, 1) := by decide +kernel
theorem dX10_reach_0 : decode cX10_reach 0 = .ok (.iload_n 1, 1) := by decide +kernel
theorem dX10_reach_1 : decode cX10_reach 1 = .ok (.ifCond .lt 9, 3) := by decide +kernel
theorem dX10_reach_4 : decode cX10_reach 4 = .ok (.iload_n 1, 1) := by decide +kernel
theorem dX10_reach_5 : decode cX10_reach 5 = .ok (.bipush 8, 2) := by decide +kernel
theorem dX10_reach_7 : decode cX10_reach 7 = .ok (.if_icmp .lt 4, 3) := by decide +kernel
theorem dX10_reach_10 : decode cX10_reach 10 = .ok (.return_, 1) := by decide +kernel
theorem dX10_reach_11 : decode cX10_reach 11 = .ok (.aload_n 0, 1) := by decide +kernel
theorem dX10_reach_12 : decode cX10_reach 12 = .ok (.getfield 28, 3) := by decide +kernel
theorem dX10_reach_15 : decode cX10_reach 15 = .ok (.getfield 45, 3) := by decide +kernel
theorem dX10_reach_18 : decode cX10_reach 18 = .ok (.iload_n 2, 1) := by decide +kernel
theorem dX10_reach_19 : decode cX10_reach 19 = .ok (.iadd, 1) := by decide +kernel
theorem dX10_reach_20 : decode cX10_reach 20 = .ok (.istore 4, 2) := by decide +kernel
theorem dX10_reach_22 : decode cX10_reach 22 = .ok (.aload_n 0, 1) := by decide +kernel
theorem dX10_reach_23 : decode cX10_reach 23 = .ok (.getfield 9, 3) := by decide +kernel
theorem dX10_reach_26 : decode cX10_reach 26 = .ok (.iload_n 1, 1) := by decide +kernel
theorem dX10_reach_27 : decode cX10_reach 27 = .ok (.iaload, 1) := by decide +kernel
theorem dX10_reach_28 : decode cX10_reach 28 = .ok (.iconst (-1), 1) := by decide +kernel
theorem dX10_reach_29 : decode cX10_reach 29 = .ok (.if_icmp .eq 35, 3) := by decide +kernel
theorem dX10_reach_32 : decode cX10_reach 32 = .ok (.iload 4, 2) := by decide +kernel
theorem dX10_reach_34 : decode cX10_reach 34 = .ok (.aload_n 0, 1) := by decide +kernel
theorem dX10_reach_35 : decode cX10_reach 35 = .ok (.getfield 9, 3) := by decide +kernel
theorem dX10_reach_38 : decode cX10_reach 38 = .ok (.iload_n 1, 1) := by decide +kernel
theorem dX10_reach_39 : decode cX10_reach 39 = .ok (.iaload, 1) := by decide +kernel
theorem dX10_reach_40 : decode cX10_reach 40 = .ok (.if_icmp .lt 24, 3) := by decide +kernel
theorem dX10_reach_43 : decode cX10_reach 43 = .ok (.iload 4, 2) := by decide +kernel
theorem dX10_reach_45 : decode cX10_reach 45 = .ok (.aload_n 0, 1) := by decide +kernel
theorem dX10_reach_46 : decode cX10_reach 46 = .ok (.getfield 9, 3) := by decide +kernel
theorem dX10_reach_49 : decode cX10_reach 49 = .ok (.iload_n 1, 1) := by decide +kernel
theorem dX10_reach_50 : decode cX10_reach 50 = .ok (.iaload, 1) := by decide +kernel
theorem dX10_reach_51 : decode cX10_reach 51 = .ok (.if_icmp .ne 28, 3) := by decide +kernel
theorem dX10_reach_54 : decode cX10_reach 54 = .ok (.iload_n 3, 1) := by decide +kernel
theorem dX10_reach_55 : decode cX10_reach 55 = .ok (.aload_n 0, 1) := by decide +kernel
theorem dX10_reach_56 : decode cX10_reach 56 = .ok (.getfield 15, 3) := by decide +kernel
theorem dX10_reach_59 : decode cX10_reach 59 = .ok (.iload_n 1, 1) := by decide +kernel
theorem dX10_reach_60 : decode cX10_reach 60 = .ok (.iaload, 1) := by decide +kernel
theorem dX10_reach_61 : decode cX10_reach 61 = .ok (.if_icmp .ge 18, 3) := by decide +kernel
theorem dX10_reach_64 : decode cX10_reach 64 = .ok (.aload_n 0, 1) := by decide +kernel
theorem dX10_reach_65 : decode cX10_reach 65 = .ok (.getfield 9, 3) := by decide +kernel
theorem dX10_reach_68 : decode cX10_reach 68 = .ok (.iload_n 1, 1) := by decide +kernel
theorem dX10_reach_69 : decode cX10_reach 69 = .ok (.iload 4, 2) := by decide +kernel
theorem dX10_reach_71 : decode cX10_reach 71 = .ok (.iastore, 1) := by decide +kernel
theorem dX10_reach_72 : decode cX10_reach 72 = .ok (.aload_n 0, 1) := by decide +kernel
theorem dX10_reach_73 : decode cX10_reach 73 = .ok (.getfield 15, 3) := by decide +kernel
theorem dX10_reach_76 : decode cX10_reach 76 = .ok (.iload_n 1, 1) := by decide +kernel
theorem dX10_reach_77 : decode cX10_reach 77 = .ok (.iload_n 3, 1) := by decide +kernel
theorem dX10_reach_78 : decode cX10_reach 78 = .ok (.iastore, 1) := by decide +kernel
theorem dX10_reach_79 : decode cX10_reach 79 = .ok (.return_, 1) := by decide +kernel
theorem dX10_wake_0 : decode cX10_wake 0 = .ok (.iload_n 1, 1) := by decide +kernel
theorem dX10_wake_1 : decode cX10_wake 1 = .ok (.ifCond .lt 45, 3) := by decide +kernel
theorem dX10_wake_4 : decode cX10_wake 4 = .ok (.iload_n 1, 1) := by decide +kernel
theorem dX10_wake_5 : decode cX10_wake 5 = .ok (.bipush 8, 2) := by decide +kernel
theorem dX10_wake_7 : decode cX10_wake 7 = .ok (.if_icmp .ge 39, 3) := by decide +kernel
theorem dX10_wake_10 : decode cX10_wake 10 = .ok (.iload_n 2, 1) := by decide +kernel
theorem dX10_wake_11 : decode cX10_wake 11 = .ok (.ifCond .lt 35, 3) := by decide +kernel
theorem dX10_wake_14 : decode cX10_wake 14 = .ok (.iload_n 2, 1) := by decide +kernel
theorem dX10_wake_15 : decode cX10_wake 15 = .ok (.bipush 60, 2) := by decide +kernel
theorem dX10_wake_17 : decode cX10_wake 17 = .ok (.if_icmp .gt 29, 3) := by decide +kernel
theorem dX10_wake_20 : decode cX10_wake 20 = .ok (.iload_n 2, 1) := by decide +kernel
theorem dX10_wake_21 : decode cX10_wake 21 = .ok (.bipush 8, 2) := by decide +kernel
theorem dX10_wake_23 : decode cX10_wake 23 = .ok (.imul, 1) := by decide +kernel
theorem dX10_wake_24 : decode cX10_wake 24 = .ok (.iload_n 1, 1) := by decide +kernel
theorem dX10_wake_25 : decode cX10_wake 25 = .ok (.iadd, 1) := by decide +kernel
theorem dX10_wake_26 : decode cX10_wake 26 = .ok (.istore 4, 2) := by decide +kernel
theorem dX10_wake_28 : decode cX10_wake 28 = .ok (.aload_n 0, 1) := by decide +kernel
theorem dX10_wake_29 : decode cX10_wake 29 = .ok (.getfield 18, 3) := by decide +kernel
theorem dX10_wake_32 : decode cX10_wake 32 = .ok (.iload 4, 2) := by decide +kernel
theorem dX10_wake_34 : decode cX10_wake 34 = .ok (.aload_n 0, 1) := by decide +kernel
theorem dX10_wake_35 : decode cX10_wake 35 = .ok (.getfield 18, 3) := by decide +kernel
theorem dX10_wake_38 : decode cX10_wake 38 = .ok (.iload 4, 2) := by decide +kernel
theorem dX10_wake_40 : decode cX10_wake 40 = .ok (.iaload, 1) := by decide +kernel
theorem dX10_wake_41 : decode cX10_wake 41 = .ok (.iload_n 3, 1) := by decide +kernel
theorem dX10_wake_42 : decode cX10_wake 42 = .ok (.invokestatic 86, 3) := by decide +kernel
theorem dX10_wake_45 : decode cX10_wake 45 = .ok (.iastore, 1) := by decide +kernel
theorem dX10_wake_46 : decode cX10_wake 46 = .ok (.return_, 1) := by decide +kernel
set_option maxRecDepth 20000 in
theorem ggX10_holdsAt_X3_sees : GoodIn wsX10_holdsAt wsX3_sees := goodIn_r _ [8, 9, 10, 11, 12, 13, 14, 15, 16, 17, 18, 19, 20, 21, 22, 23, 24, 25, 26, 7, 27, 28, 29, 30, 31, 32, 33, 34, 35, 36, 37, 38, 39, 40, 41, 42, 43, 44, 45, 46, 47, 48, 49, 50, 51, 52, 53, 54, 55, 56, 57, 58, 59, 60, 61, 62, 63, 64, 65, 66, 67, 68, 69, 70, 71, 72, 73, 74, 75, 76, 77, 78, 79, 80, 81, 82, 83, 84, 85, 86, 87, 88, 89, 109, 110, 111, 112, 113, 114, 115, 116, 117, 118, 119, 120, 121, 122, 123, 124, 125, 126, 127, 128, 97, 98, 99, 100, 101, 102, 103, 104, 105, 106, 107, 108, 129, 130, 131, 132, 133, 134, 135, 136, 137, 138, 139, 140, 141, 142] rfl (by decide +kernel)
set_option maxRecDepth 20000 in
theorem gX10_holdsAt_X3_sees : GoodIn wsX10_holdsAt (wsV RX10 89 RX3 yX3_sees wsX3_sees) := goodIn_app (goodIn_r _ [4, 5, 6, 7] rfl (by decide +kernel)) ggX10_holdsAt_X3_sees
theorem dX10_holdsAt_0 : decode cX10_holdsAt 0 = .ok (.iload_n 1, 1) := by decide +kernel
theorem dX10_holdsAt_1 : decode cX10_holdsAt 1 = .ok (.ifCond .lt 19, 3) := by decide +kernel
theorem dX10_holdsAt_4 : decode cX10_holdsAt 4 = .ok (.iload_n 1, 1) := by decide +kernel
theorem dX10_holdsAt_5 : decode cX10_holdsAt 5 = .ok (.bipush 8, 2) := by decide +kernel
theorem dX10_holdsAt_7 : decode cX10_holdsAt 7 = .ok (.if_icmp .ge 13, 3) := by decide +kernel
theorem dX10_holdsAt_10 : decode cX10_holdsAt 10 = .ok (.iload_n 2, 1) := by decide +kernel
theorem dX10_holdsAt_11 : decode cX10_holdsAt 11 = .ok (.ifCond .lt 9, 3) := by decide +kernel
theorem dX10_holdsAt_14 : decode cX10_holdsAt 14 = .ok (.iload_n 2, 1) := by decide +kernel
theorem dX10_holdsAt_15 : decode cX10_holdsAt 15 = .ok (.bipush 60, 2) := by decide +kernel
theorem dX10_holdsAt_17 : decode cX10_holdsAt 17 = .ok (.if_icmp .le 5, 3) := by decide +kernel
theorem dX10_holdsAt_20 : decode cX10_holdsAt 20 = .ok (.iconst 0, 1) := by decide +kernel
theorem dX10_holdsAt_21 : decode cX10_holdsAt 21 = .ok (.ireturn, 1) := by decide +kernel
theorem dX10_holdsAt_22 : decode cX10_holdsAt 22 = .ok (.iload_n 2, 1) := by decide +kernel
theorem dX10_holdsAt_23 : decode cX10_holdsAt 23 = .ok (.bipush 8, 2) := by decide +kernel
theorem dX10_holdsAt_25 : decode cX10_holdsAt 25 = .ok (.imul, 1) := by decide +kernel
theorem dX10_holdsAt_26 : decode cX10_holdsAt 26 = .ok (.iload_n 1, 1) := by decide +kernel
theorem dX10_holdsAt_27 : decode cX10_holdsAt 27 = .ok (.iadd, 1) := by decide +kernel
theorem dX10_holdsAt_28 : decode cX10_holdsAt 28 = .ok (.istore_n 3, 1) := by decide +kernel
theorem dX10_holdsAt_29 : decode cX10_holdsAt 29 = .ok (.aload_n 0, 1) := by decide +kernel
theorem dX10_holdsAt_30 : decode cX10_holdsAt 30 = .ok (.getfield 21, 3) := by decide +kernel
theorem dX10_holdsAt_33 : decode cX10_holdsAt 33 = .ok (.iload_n 3, 1) := by decide +kernel
theorem dX10_holdsAt_34 : decode cX10_holdsAt 34 = .ok (.iaload, 1) := by decide +kernel
theorem dX10_holdsAt_35 : decode cX10_holdsAt 35 = .ok (.ifCond .ne 34, 3) := by decide +kernel
theorem dX10_holdsAt_38 : decode cX10_holdsAt 38 = .ok (.aload_n 0, 1) := by decide +kernel
theorem dX10_holdsAt_39 : decode cX10_holdsAt 39 = .ok (.getfield 21, 3) := by decide +kernel
theorem dX10_holdsAt_42 : decode cX10_holdsAt 42 = .ok (.iload_n 3, 1) := by decide +kernel
theorem dX10_holdsAt_43 : decode cX10_holdsAt 43 = .ok (.aload_n 0, 1) := by decide +kernel
theorem dX10_holdsAt_44 : decode cX10_holdsAt 44 = .ok (.getfield 32, 3) := by decide +kernel
theorem dX10_holdsAt_47 : decode cX10_holdsAt 47 = .ok (.iload_n 1, 1) := by decide +kernel
theorem dX10_holdsAt_48 : decode cX10_holdsAt 48 = .ok (.aload_n 0, 1) := by decide +kernel
theorem dX10_holdsAt_49 : decode cX10_holdsAt 49 = .ok (.getfield 28, 3) := by decide +kernel
theorem dX10_holdsAt_52 : decode cX10_holdsAt 52 = .ok (.getfield 45, 3) := by decide +kernel
theorem dX10_holdsAt_55 : decode cX10_holdsAt 55 = .ok (.iload_n 2, 1) := by decide +kernel
theorem dX10_holdsAt_56 : decode cX10_holdsAt 56 = .ok (.iadd, 1) := by decide +kernel
theorem dX10_holdsAt_57 : decode cX10_holdsAt 57 = .ok (.invokevirtual 89, 3) := by decide +kernel
theorem dX10_holdsAt_60 : decode cX10_holdsAt 60 = .ok (.ifCond .eq 7, 3) := by decide +kernel
theorem dX10_holdsAt_63 : decode cX10_holdsAt 63 = .ok (.iconst 1, 1) := by decide +kernel
theorem dX10_holdsAt_64 : decode cX10_holdsAt 64 = .ok (.goto 4, 3) := by decide +kernel
theorem dX10_holdsAt_67 : decode cX10_holdsAt 67 = .ok (.iconst 2, 1) := by decide +kernel
theorem dX10_holdsAt_68 : decode cX10_holdsAt 68 = .ok (.iastore, 1) := by decide +kernel
theorem dX10_holdsAt_69 : decode cX10_holdsAt 69 = .ok (.aload_n 0, 1) := by decide +kernel
theorem dX10_holdsAt_70 : decode cX10_holdsAt 70 = .ok (.getfield 21, 3) := by decide +kernel
theorem dX10_holdsAt_73 : decode cX10_holdsAt 73 = .ok (.iload_n 3, 1) := by decide +kernel
theorem dX10_holdsAt_74 : decode cX10_holdsAt 74 = .ok (.iaload, 1) := by decide +kernel
theorem dX10_holdsAt_75 : decode cX10_holdsAt 75 = .ok (.iconst 1, 1) := by decide +kernel
theorem dX10_holdsAt_76 : decode cX10_holdsAt 76 = .ok (.if_icmp .ne 7, 3) := by decide +kernel
theorem dX10_holdsAt_79 : decode cX10_holdsAt 79 = .ok (.iconst 1, 1) := by decide +kernel
theorem dX10_holdsAt_80 : decode cX10_holdsAt 80 = .ok (.goto 4, 3) := by decide +kernel
theorem dX10_holdsAt_83 : decode cX10_holdsAt 83 = .ok (.iconst 0, 1) := by decide +kernel
theorem dX10_holdsAt_84 : decode cX10_holdsAt 84 = .ok (.ireturn, 1) := by decide +kernel
set_option maxRecDepth 20000 in
theorem ggX10_countLanes_X10_startBay : GoodIn wsX10_countLanes wsX10_startBay := goodIn_r _ [7, 8, 24, 25, 26, 27, 28, 29, 30, 46, 47, 48, 49, 50, 51, 52, 53, 54, 55, 56, 57] rfl (by decide +kernel)
set_option maxRecDepth 20000 in
theorem gX10_countLanes_X10_startBay : GoodIn wsX10_countLanes (wsV RX10 54 RX10 yX10_startBay wsX10_startBay) := goodIn_app (goodIn_r _ [3, 4, 5, 6] rfl (by decide +kernel)) ggX10_countLanes_X10_startBay
set_option maxRecDepth 20000 in
theorem ggX10_countLanes_X10_spread : GoodIn wsX10_countLanes wsX10_spread := goodIn_r _ [12, 2, 1, 13, 14, 15, 16, 17, 18, 19, 20, 21, 22, 23, 24, 25, 26, 27, 28, 29, 30, 31, 32, 33, 34, 35, 36, 37, 38, 39, 40, 41, 42, 43, 44, 45] rfl (by decide +kernel)
set_option maxRecDepth 20000 in
theorem gX10_countLanes_X10_spread : GoodIn wsX10_countLanes (wsV RX10 94 RX10 yX10_spread wsX10_spread) := goodIn_app (goodIn_r _ [9, 10, 11, 6] rfl (by decide +kernel)) ggX10_countLanes_X10_spread
theorem dX10_countLanes_0 : decode cX10_countLanes 0 = .ok (.iconst 0, 1) := by decide +kernel
theorem dX10_countLanes_1 : decode cX10_countLanes 1 = .ok (.istore_n 1, 1) := by decide +kernel
theorem dX10_countLanes_2 : decode cX10_countLanes 2 = .ok (.iload_n 1, 1) := by decide +kernel
theorem dX10_countLanes_3 : decode cX10_countLanes 3 = .ok (.bipush 8, 2) := by decide +kernel
theorem dX10_countLanes_5 : decode cX10_countLanes 5 = .ok (.if_icmp .ge 28, 3) := by decide +kernel
theorem dX10_countLanes_8 : decode cX10_countLanes 8 = .ok (.aload_n 0, 1) := by decide +kernel
theorem dX10_countLanes_9 : decode cX10_countLanes 9 = .ok (.getfield 15, 3) := by decide +kernel
theorem dX10_countLanes_12 : decode cX10_countLanes 12 = .ok (.iload_n 1, 1) := by decide +kernel
theorem dX10_countLanes_13 : decode cX10_countLanes 13 = .ok (.iload_n 1, 1) := by decide +kernel
theorem dX10_countLanes_14 : decode cX10_countLanes 14 = .ok (.aload_n 0, 1) := by decide +kernel
theorem dX10_countLanes_15 : decode cX10_countLanes 15 = .ok (.invokevirtual 54, 3) := by decide +kernel
theorem dX10_countLanes_18 : decode cX10_countLanes 18 = .ok (.if_icmp .ne 7, 3) := by decide +kernel
theorem dX10_countLanes_21 : decode cX10_countLanes 21 = .ok (.iconst 0, 1) := by decide +kernel
theorem dX10_countLanes_22 : decode cX10_countLanes 22 = .ok (.goto 4, 3) := by decide +kernel
theorem dX10_countLanes_25 : decode cX10_countLanes 25 = .ok (.iconst (-1), 1) := by decide +kernel
theorem dX10_countLanes_26 : decode cX10_countLanes 26 = .ok (.iastore, 1) := by decide +kernel
theorem dX10_countLanes_27 : decode cX10_countLanes 27 = .ok (.iinc 1 1, 3) := by decide +kernel
theorem dX10_countLanes_30 : decode cX10_countLanes 30 = .ok (.goto (-28), 3) := by decide +kernel
theorem dX10_countLanes_33 : decode cX10_countLanes 33 = .ok (.iconst 0, 1) := by decide +kernel
theorem dX10_countLanes_34 : decode cX10_countLanes 34 = .ok (.istore_n 1, 1) := by decide +kernel
theorem dX10_countLanes_35 : decode cX10_countLanes 35 = .ok (.iload_n 1, 1) := by decide +kernel
theorem dX10_countLanes_36 : decode cX10_countLanes 36 = .ok (.bipush 8, 2) := by decide +kernel
theorem dX10_countLanes_38 : decode cX10_countLanes 38 = .ok (.if_icmp .ge 52, 3) := by decide +kernel
theorem dX10_countLanes_41 : decode cX10_countLanes 41 = .ok (.iconst 0, 1) := by decide +kernel
theorem dX10_countLanes_42 : decode cX10_countLanes 42 = .ok (.istore_n 2, 1) := by decide +kernel
theorem dX10_countLanes_43 : decode cX10_countLanes 43 = .ok (.iload_n 2, 1) := by decide +kernel
theorem dX10_countLanes_44 : decode cX10_countLanes 44 = .ok (.aload_n 0, 1) := by decide +kernel
theorem dX10_countLanes_45 : decode cX10_countLanes 45 = .ok (.getfield 24, 3) := by decide +kernel
theorem dX10_countLanes_48 : decode cX10_countLanes 48 = .ok (.getfield 65, 3) := by decide +kernel
theorem dX10_countLanes_51 : decode cX10_countLanes 51 = .ok (.if_icmp .ge 33, 3) := by decide +kernel
theorem dX10_countLanes_54 : decode cX10_countLanes 54 = .ok (.iload_n 2, 1) := by decide +kernel
theorem dX10_countLanes_55 : decode cX10_countLanes 55 = .ok (.bipush 8, 2) := by decide +kernel
theorem dX10_countLanes_57 : decode cX10_countLanes 57 = .ok (.if_icmp .ge 27, 3) := by decide +kernel
theorem dX10_countLanes_60 : decode cX10_countLanes 60 = .ok (.aload_n 0, 1) := by decide +kernel
theorem dX10_countLanes_61 : decode cX10_countLanes 61 = .ok (.getfield 15, 3) := by decide +kernel
theorem dX10_countLanes_64 : decode cX10_countLanes 64 = .ok (.iload_n 2, 1) := by decide +kernel
theorem dX10_countLanes_65 : decode cX10_countLanes 65 = .ok (.iaload, 1) := by decide +kernel
theorem dX10_countLanes_66 : decode cX10_countLanes 66 = .ok (.iload_n 1, 1) := by decide +kernel
theorem dX10_countLanes_67 : decode cX10_countLanes 67 = .ok (.if_icmp .ne 11, 3) := by decide +kernel
theorem dX10_countLanes_70 : decode cX10_countLanes 70 = .ok (.aload_n 0, 1) := by decide +kernel
theorem dX10_countLanes_71 : decode cX10_countLanes 71 = .ok (.iload_n 2, 1) := by decide +kernel
theorem dX10_countLanes_72 : decode cX10_countLanes 72 = .ok (.iload_n 1, 1) := by decide +kernel
theorem dX10_countLanes_73 : decode cX10_countLanes 73 = .ok (.iconst 1, 1) := by decide +kernel
theorem dX10_countLanes_74 : decode cX10_countLanes 74 = .ok (.iadd, 1) := by decide +kernel
theorem dX10_countLanes_75 : decode cX10_countLanes 75 = .ok (.invokevirtual 94, 3) := by decide +kernel
theorem dX10_countLanes_78 : decode cX10_countLanes 78 = .ok (.iinc 2 1, 3) := by decide +kernel
theorem dX10_countLanes_81 : decode cX10_countLanes 81 = .ok (.goto (-38), 3) := by decide +kernel
theorem dX10_countLanes_84 : decode cX10_countLanes 84 = .ok (.iinc 1 1, 3) := by decide +kernel
theorem dX10_countLanes_87 : decode cX10_countLanes 87 = .ok (.goto (-52), 3) := by decide +kernel
theorem dX10_countLanes_90 : decode cX10_countLanes 90 = .ok (.return_, 1) := by decide +kernel
set_option maxRecDepth 20000 in
theorem ggX10_spread_X0_daysBetween : GoodIn wsX10_spread wsX0_daysBetween := goodIn_r _ [7, 8, 9, 10, 11, 6, 12, 13, 21, 22, 23, 24, 25, 26, 27, 28, 29, 30, 31, 32, 33, 34, 35] rfl (by decide +kernel)
set_option maxRecDepth 20000 in
theorem gX10_spread_X0_daysBetween : GoodIn wsX10_spread (wsV RX10 81 RX0 yX0_daysBetween wsX0_daysBetween) := goodIn_app (goodIn_r _ [3, 4, 5, 6] rfl (by decide +kernel)) ggX10_spread_X0_daysBetween
theorem dX10_spread_0 : decode cX10_spread 0 = .ok (.iconst 0, 1) := by decide +kernel
theorem dX10_spread_1 : decode cX10_spread 1 = .ok (.istore_n 3, 1) := by decide +kernel
theorem dX10_spread_2 : decode cX10_spread 2 = .ok (.iload_n 3, 1) := by decide +kernel
theorem dX10_spread_3 : decode cX10_spread 3 = .ok (.aload_n 0, 1) := by decide +kernel
theorem dX10_spread_4 : decode cX10_spread 4 = .ok (.getfield 24, 3) := by decide +kernel
theorem dX10_spread_7 : decode cX10_spread 7 = .ok (.getfield 65, 3) := by decide +kernel
theorem dX10_spread_10 : decode cX10_spread 10 = .ok (.if_icmp .ge 44, 3) := by decide +kernel
theorem dX10_spread_13 : decode cX10_spread 13 = .ok (.iload_n 3, 1) := by decide +kernel
theorem dX10_spread_14 : decode cX10_spread 14 = .ok (.bipush 8, 2) := by decide +kernel
theorem dX10_spread_16 : decode cX10_spread 16 = .ok (.if_icmp .ge 38, 3) := by decide +kernel
theorem dX10_spread_19 : decode cX10_spread 19 = .ok (.aload_n 0, 1) := by decide +kernel
theorem dX10_spread_20 : decode cX10_spread 20 = .ok (.getfield 15, 3) := by decide +kernel
theorem dX10_spread_23 : decode cX10_spread 23 = .ok (.iload_n 3, 1) := by decide +kernel
theorem dX10_spread_24 : decode cX10_spread 24 = .ok (.iaload, 1) := by decide +kernel
theorem dX10_spread_25 : decode cX10_spread 25 = .ok (.iconst (-1), 1) := by decide +kernel
theorem dX10_spread_26 : decode cX10_spread 26 = .ok (.if_icmp .ne 22, 3) := by decide +kernel
theorem dX10_spread_29 : decode cX10_spread 29 = .ok (.aload_n 0, 1) := by decide +kernel
theorem dX10_spread_30 : decode cX10_spread 30 = .ok (.getfield 24, 3) := by decide +kernel
theorem dX10_spread_33 : decode cX10_spread 33 = .ok (.iload_n 1, 1) := by decide +kernel
theorem dX10_spread_34 : decode cX10_spread 34 = .ok (.iload_n 3, 1) := by decide +kernel
theorem dX10_spread_35 : decode cX10_spread 35 = .ok (.invokevirtual 81, 3) := by decide +kernel
theorem dX10_spread_38 : decode cX10_spread 38 = .ok (.ifCond .le 10, 3) := by decide +kernel
theorem dX10_spread_41 : decode cX10_spread 41 = .ok (.aload_n 0, 1) := by decide +kernel
theorem dX10_spread_42 : decode cX10_spread 42 = .ok (.getfield 15, 3) := by decide +kernel
theorem dX10_spread_45 : decode cX10_spread 45 = .ok (.iload_n 3, 1) := by decide +kernel
theorem dX10_spread_46 : decode cX10_spread 46 = .ok (.iload_n 2, 1) := by decide +kernel
theorem dX10_spread_47 : decode cX10_spread 47 = .ok (.iastore, 1) := by decide +kernel
theorem dX10_spread_48 : decode cX10_spread 48 = .ok (.iinc 3 1, 3) := by decide +kernel
theorem dX10_spread_51 : decode cX10_spread 51 = .ok (.goto (-49), 3) := by decide +kernel
theorem dX10_spread_54 : decode cX10_spread 54 = .ok (.return_, 1) := by decide +kernel
set_option maxRecDepth 20000 in
theorem ggX11_init_X9_init : GoodIn wsX11_init wsX9_init := goodIn_r _ [47, 48, 2, 3, 49, 50, 51, 52, 53, 54, 55, 56, 57, 58, 59, 60, 61, 62, 63, 64, 65, 66, 67, 68, 69, 70, 71, 72, 73, 74, 75, 76, 77, 78, 79, 80, 81, 82, 83, 84, 85, 86, 87, 88, 89, 90, 91, 92, 93, 94, 95, 96, 97, 98, 99, 100, 101, 102, 103, 104, 233, 234, 235, 236, 237, 238, 239, 240, 241] rfl (by decide +kernel)
set_option maxRecDepth 20000 in
theorem gX11_init_X9_init : GoodIn wsX11_init (wsX9_init) := ggX11_init_X9_init
set_option maxRecDepth 20000 in
theorem ggX11_init_X7_init : GoodIn wsX11_init wsX7_init := goodIn_r _ [107, 108, 2, 3, 51, 109, 110, 256, 257, 258, 259, 260, 261, 262, 263, 264, 265, 266, 267] rfl (by decide +kernel)
set_option maxRecDepth 20000 in
theorem gX11_init_X7_init : GoodIn wsX11_init (wsX7_init) := ggX11_init_X7_init
set_option maxRecDepth 20000 in
theorem ggX11_init_X0_init : GoodIn wsX11_init wsX0_init := goodIn_r _ [113, 114, 2, 3, 51, 115, 116, 117, 118, 119, 120, 121, 122, 123, 124, 125, 126, 127, 128, 129, 130, 131, 132, 133, 134, 135, 136, 14, 137, 138, 139, 140, 141, 142, 143, 144, 145, 146, 147, 148, 149, 268, 269, 270, 271, 272, 273, 274, 275, 276, 277, 278, 279, 280, 281, 282, 331, 332, 333, 334, 335, 336] rfl (by decide +kernel)
set_option maxRecDepth 20000 in
theorem gX11_init_X0_init : GoodIn wsX11_init (wsX0_init) := ggX11_init_X0_init
set_option maxRecDepth 20000 in
theorem ggX11_init_X5_init : GoodIn wsX11_init wsX5_init := goodIn_r _ [152, 153, 2, 3, 51, 154, 155, 156, 157, 158, 159, 283, 284, 285, 286, 287, 288, 289, 290, 291, 292, 293, 294] rfl (by decide +kernel)
set_option maxRecDepth 20000 in
theorem gX11_init_X5_init : GoodIn wsX11_init (wsX5_init) := ggX11_init_X5_init
set_option maxRecDepth 20000 in
theorem ggX11_init_X2_init : GoodIn wsX11_init wsX2_init := goodIn_r _ [162, 163, 2, 3, 51, 164, 165, 166, 167, 168, 295, 296, 297, 298, 299, 300] rfl (by decide +kernel)
set_option maxRecDepth 20000 in
theorem gX11_init_X2_init : GoodIn wsX11_init (wsX2_init) := ggX11_init_X2_init
set_option maxRecDepth 20000 in
theorem ggX11_init_X3_init : GoodIn wsX11_init wsX3_init := goodIn_r _ [171, 172, 2, 3, 173, 174, 175, 176, 51, 177, 178, 179, 180, 181, 182, 183, 337, 338, 339, 340, 341, 342, 343, 344, 301, 302, 303, 304, 305] rfl (by decide +kernel)
set_option maxRecDepth 20000 in
theorem gX11_init_X3_init : GoodIn wsX11_init (wsX3_init) := ggX11_init_X3_init
set_option maxRecDepth 20000 in
theorem ggX11_init_X1_init : GoodIn wsX11_init wsX1_init := goodIn_r _ [186, 187, 2, 3, 188, 18, 19, 189, 190, 174, 175, 191, 192, 193, 194, 151, 152, 153, 51, 154, 155, 156, 157, 158, 159, 181, 182, 183, 283, 284, 285, 286, 287, 288, 289, 290, 291, 292, 293, 294, 306, 307, 308, 309, 310, 311, 312, 313, 314, 337, 338, 339, 340, 341, 342, 343, 344] rfl (by decide +kernel)
set_option maxRecDepth 20000 in
theorem gX11_init_X1_init : GoodIn wsX11_init (wsX1_init) := ggX11_init_X1_init
set_option maxRecDepth 20000 in
theorem ggX11_init_X10_init : GoodIn wsX11_init wsX10_init := goodIn_r _ [197, 198, 2, 3, 51, 199, 200, 201, 202, 203, 204, 205, 315, 316, 317, 318, 319, 320, 321] rfl (by decide +kernel)
set_option maxRecDepth 20000 in
theorem gX11_init_X10_init : GoodIn wsX11_init (wsX10_init) := ggX11_init_X10_init
set_option maxRecDepth 20000 in
theorem ggX11_init_X6_init : GoodIn wsX11_init wsX6_init := goodIn_r _ [208, 209, 2, 3, 51, 210, 211, 212, 213, 214, 215, 216, 217, 218, 322, 323, 324, 325, 326, 327, 328, 329, 330] rfl (by decide +kernel)
set_option maxRecDepth 20000 in
theorem gX11_init_X6_init : GoodIn wsX11_init (wsX6_init) := ggX11_init_X6_init
set_option maxRecDepth 20000 in
theorem ggX11_init_X5_begin : GoodIn wsX11_init wsX5_begin := goodIn_r _ [222, 154, 155, 156, 223, 157, 158, 159, 224, 225, 226, 227, 228, 229, 230, 231, 14, 232, 142, 138, 283, 284, 285, 286, 287, 288, 289, 290, 291, 292, 293, 294, 268, 269, 270, 271, 272, 273, 274, 275, 276, 277, 278, 279, 280, 281, 282] rfl (by decide +kernel)
set_option maxRecDepth 20000 in
theorem gX11_init_X5_begin : GoodIn wsX11_init (wsV RX11 88 RX5 yX5_begin wsX5_begin) := goodIn_app (goodIn_r _ [219, 220, 221, 19] rfl (by decide +kernel)) ggX11_init_X5_begin
theorem dX11_init_0 : decode cX11_init 0 = .ok (.aload_n 0, 1) := by decide +kernel
theorem dX11_init_1 : decode cX11_init 1 = .ok (.invokespecial 1, 3) := by decide +kernel
theorem dX11_init_4 : decode cX11_init 4 = .ok (.aload_n 0, 1) := by decide +kernel
theorem dX11_init_5 : decode cX11_init 5 = .ok (.new 7, 3) := by decide +kernel
theorem dX11_init_8 : decode cX11_init 8 = .ok (.dup, 1) := by decide +kernel
theorem dX11_init_9 : decode cX11_init 9 = .ok (.invokespecial 9, 3) := by decide +kernel
theorem dX11_init_12 : decode cX11_init 12 = .ok (.putfield 10, 3) := by decide +kernel
theorem dX11_init_15 : decode cX11_init 15 = .ok (.aload_n 0, 1) := by decide +kernel
theorem dX11_init_16 : decode cX11_init 16 = .ok (.new 16, 3) := by decide +kernel
theorem dX11_init_19 : decode cX11_init 19 = .ok (.dup, 1) := by decide +kernel
theorem dX11_init_20 : decode cX11_init 20 = .ok (.aload_n 0, 1) := by decide +kernel
theorem dX11_init_21 : decode cX11_init 21 = .ok (.getfield 10, 3) := by decide +kernel
theorem dX11_init_24 : decode cX11_init 24 = .ok (.invokespecial 18, 3) := by decide +kernel
theorem dX11_init_27 : decode cX11_init 27 = .ok (.putfield 21, 3) := by decide +kernel
theorem dX11_init_30 : decode cX11_init 30 = .ok (.aload_n 0, 1) := by decide +kernel
theorem dX11_init_31 : decode cX11_init 31 = .ok (.new 25, 3) := by decide +kernel
theorem dX11_init_34 : decode cX11_init 34 = .ok (.dup, 1) := by decide +kernel
theorem dX11_init_35 : decode cX11_init 35 = .ok (.invokespecial 27, 3) := by decide +kernel
theorem dX11_init_38 : decode cX11_init 38 = .ok (.putfield 28, 3) := by decide +kernel
theorem dX11_init_41 : decode cX11_init 41 = .ok (.aload_n 0, 1) := by decide +kernel
theorem dX11_init_42 : decode cX11_init 42 = .ok (.new 25, 3) := by decide +kernel
theorem dX11_init_45 : decode cX11_init 45 = .ok (.dup, 1) := by decide +kernel
theorem dX11_init_46 : decode cX11_init 46 = .ok (.invokespecial 27, 3) := by decide +kernel
theorem dX11_init_49 : decode cX11_init 49 = .ok (.putfield 32, 3) := by decide +kernel
theorem dX11_init_52 : decode cX11_init 52 = .ok (.aload_n 0, 1) := by decide +kernel
theorem dX11_init_53 : decode cX11_init 53 = .ok (.new 35, 3) := by decide +kernel
theorem dX11_init_56 : decode cX11_init 56 = .ok (.dup, 1) := by decide +kernel
theorem dX11_init_57 : decode cX11_init 57 = .ok (.invokespecial 37, 3) := by decide +kernel
theorem dX11_init_60 : decode cX11_init 60 = .ok (.putfield 38, 3) := by decide +kernel
theorem dX11_init_63 : decode cX11_init 63 = .ok (.aload_n 0, 1) := by decide +kernel
theorem dX11_init_64 : decode cX11_init 64 = .ok (.new 35, 3) := by decide +kernel
theorem dX11_init_67 : decode cX11_init 67 = .ok (.dup, 1) := by decide +kernel
theorem dX11_init_68 : decode cX11_init 68 = .ok (.invokespecial 37, 3) := by decide +kernel
theorem dX11_init_71 : decode cX11_init 71 = .ok (.putfield 42, 3) := by decide +kernel
theorem dX11_init_74 : decode cX11_init 74 = .ok (.aload_n 0, 1) := by decide +kernel
theorem dX11_init_75 : decode cX11_init 75 = .ok (.new 45, 3) := by decide +kernel
theorem dX11_init_78 : decode cX11_init 78 = .ok (.dup, 1) := by decide +kernel
theorem dX11_init_79 : decode cX11_init 79 = .ok (.aload_n 0, 1) := by decide +kernel
theorem dX11_init_80 : decode cX11_init 80 = .ok (.getfield 38, 3) := by decide +kernel
theorem dX11_init_83 : decode cX11_init 83 = .ok (.invokespecial 47, 3) := by decide +kernel
theorem dX11_init_86 : decode cX11_init 86 = .ok (.putfield 50, 3) := by decide +kernel
theorem dX11_init_89 : decode cX11_init 89 = .ok (.aload_n 0, 1) := by decide +kernel
theorem dX11_init_90 : decode cX11_init 90 = .ok (.new 54, 3) := by decide +kernel
theorem dX11_init_93 : decode cX11_init 93 = .ok (.dup, 1) := by decide +kernel
theorem dX11_init_94 : decode cX11_init 94 = .ok (.aload_n 0, 1) := by decide +kernel
theorem dX11_init_95 : decode cX11_init 95 = .ok (.getfield 28, 3) := by decide +kernel
theorem dX11_init_98 : decode cX11_init 98 = .ok (.aload_n 0, 1) := by decide +kernel
theorem dX11_init_99 : decode cX11_init 99 = .ok (.getfield 38, 3) := by decide +kernel
theorem dX11_init_102 : decode cX11_init 102 = .ok (.invokespecial 56, 3) := by decide +kernel
theorem dX11_init_105 : decode cX11_init 105 = .ok (.putfield 59, 3) := by decide +kernel
theorem dX11_init_108 : decode cX11_init 108 = .ok (.aload_n 0, 1) := by decide +kernel
theorem dX11_init_109 : decode cX11_init 109 = .ok (.new 63, 3) := by decide +kernel
theorem dX11_init_112 : decode cX11_init 112 = .ok (.dup, 1) := by decide +kernel
theorem dX11_init_113 : decode cX11_init 113 = .ok (.aload_n 0, 1) := by decide +kernel
theorem dX11_init_114 : decode cX11_init 114 = .ok (.getfield 28, 3) := by decide +kernel
theorem dX11_init_117 : decode cX11_init 117 = .ok (.aload_n 0, 1) := by decide +kernel
theorem dX11_init_118 : decode cX11_init 118 = .ok (.getfield 38, 3) := by decide +kernel
theorem dX11_init_121 : decode cX11_init 121 = .ok (.invokespecial 65, 3) := by decide +kernel
theorem dX11_init_124 : decode cX11_init 124 = .ok (.putfield 66, 3) := by decide +kernel
theorem dX11_init_127 : decode cX11_init 127 = .ok (.aload_n 0, 1) := by decide +kernel
theorem dX11_init_128 : decode cX11_init 128 = .ok (.new 70, 3) := by decide +kernel
theorem dX11_init_131 : decode cX11_init 131 = .ok (.dup, 1) := by decide +kernel
theorem dX11_init_132 : decode cX11_init 132 = .ok (.aload_n 0, 1) := by decide +kernel
theorem dX11_init_133 : decode cX11_init 133 = .ok (.getfield 28, 3) := by decide +kernel
theorem dX11_init_136 : decode cX11_init 136 = .ok (.aload_n 0, 1) := by decide +kernel
theorem dX11_init_137 : decode cX11_init 137 = .ok (.getfield 38, 3) := by decide +kernel
theorem dX11_init_140 : decode cX11_init 140 = .ok (.aload_n 0, 1) := by decide +kernel
theorem dX11_init_141 : decode cX11_init 141 = .ok (.getfield 59, 3) := by decide +kernel
theorem dX11_init_144 : decode cX11_init 144 = .ok (.invokespecial 72, 3) := by decide +kernel
theorem dX11_init_147 : decode cX11_init 147 = .ok (.putfield 75, 3) := by decide +kernel
theorem dX11_init_150 : decode cX11_init 150 = .ok (.aload_n 0, 1) := by decide +kernel
theorem dX11_init_151 : decode cX11_init 151 = .ok (.new 79, 3) := by decide +kernel
theorem dX11_init_154 : decode cX11_init 154 = .ok (.dup, 1) := by decide +kernel
theorem dX11_init_155 : decode cX11_init 155 = .ok (.aload_n 0, 1) := by decide +kernel
theorem dX11_init_156 : decode cX11_init 156 = .ok (.getfield 28, 3) := by decide +kernel
theorem dX11_init_159 : decode cX11_init 159 = .ok (.aload_n 0, 1) := by decide +kernel
theorem dX11_init_160 : decode cX11_init 160 = .ok (.getfield 59, 3) := by decide +kernel
theorem dX11_init_163 : decode cX11_init 163 = .ok (.invokespecial 81, 3) := by decide +kernel
theorem dX11_init_166 : decode cX11_init 166 = .ok (.putfield 84, 3) := by decide +kernel
theorem dX11_init_169 : decode cX11_init 169 = .ok (.aload_n 0, 1) := by decide +kernel
theorem dX11_init_170 : decode cX11_init 170 = .ok (.getfield 38, 3) := by decide +kernel
theorem dX11_init_173 : decode cX11_init 173 = .ok (.aload_n 0, 1) := by decide +kernel
theorem dX11_init_174 : decode cX11_init 174 = .ok (.getfield 28, 3) := by decide +kernel
theorem dX11_init_177 : decode cX11_init 177 = .ok (.invokevirtual 88, 3) := by decide +kernel
theorem dX11_init_180 : decode cX11_init 180 = .ok (.aload_n 0, 1) := by decide +kernel
theorem dX11_init_181 : decode cX11_init 181 = .ok (.iconst 0, 1) := by decide +kernel
theorem dX11_init_182 : decode cX11_init 182 = .ok (.putfield 92, 3) := by decide +kernel
theorem dX11_init_185 : decode cX11_init 185 = .ok (.aload_n 0, 1) := by decide +kernel
theorem dX11_init_186 : decode cX11_init 186 = .ok (.iconst 0, 1) := by decide +kernel
theorem dX11_init_187 : decode cX11_init 187 = .ok (.putfield 96, 3) := by decide +kernel
theorem dX11_init_190 : decode cX11_init 190 = .ok (.aload_n 0, 1) := by decide +kernel
theorem dX11_init_191 : decode cX11_init 191 = .ok (.iconst (-1), 1) := by decide +kernel
theorem dX11_init_192 : decode cX11_init 192 = .ok (.putfield 100, 3) := by decide +kernel
theorem dX11_init_195 : decode cX11_init 195 = .ok (.return_, 1) := by decide +kernel
set_option maxRecDepth 20000 in
theorem ggX11_feed_X9_hasRoomFor : GoodIn wsX11_feed wsX9_hasRoomFor := goodIn_r _ [6, 7, 27, 28, 29, 30, 31, 32, 33, 34, 35] rfl (by decide +kernel)
set_option maxRecDepth 20000 in
theorem gX11_feed_X9_hasRoomFor : GoodIn wsX11_feed (wsV RX11 103 RX9 yX9_hasRoomFor wsX9_hasRoomFor) := goodIn_app (goodIn_r _ [2, 3, 4, 5] rfl (by decide +kernel)) ggX11_feed_X9_hasRoomFor
set_option maxRecDepth 20000 in
theorem ggX11_feed_X9_add : GoodIn wsX11_feed wsX9_add := goodIn_r _ [11, 7, 12, 27, 28, 29, 30, 31, 32, 33, 34, 35] rfl (by decide +kernel)
set_option maxRecDepth 20000 in
theorem gX11_feed_X9_add : GoodIn wsX11_feed (wsV RX11 107 RX9 yX9_add wsX9_add) := goodIn_app (goodIn_r _ [8, 9, 10, 5] rfl (by decide +kernel)) ggX11_feed_X9_add
theorem dX11_feed_0 : decode cX11_feed 0 = .ok (.aload_n 0, 1) := by decide +kernel
theorem dX11_feed_1 : decode cX11_feed 1 = .ok (.getfield 10, 3) := by decide +kernel
theorem dX11_feed_4 : decode cX11_feed 4 = .ok (.bipush 20, 2) := by decide +kernel
theorem dX11_feed_6 : decode cX11_feed 6 = .ok (.invokevirtual 103, 3) := by decide +kernel
theorem dX11_feed_9 : decode cX11_feed 9 = .ok (.ifCond .ne 5, 3) := by decide +kernel
theorem dX11_feed_12 : decode cX11_feed 12 = .ok (.iconst (-1), 1) := by decide +kernel
theorem dX11_feed_13 : decode cX11_feed 13 = .ok (.ireturn, 1) := by decide +kernel
theorem dX11_feed_14 : decode cX11_feed 14 = .ok (.aload_n 0, 1) := by decide +kernel
theorem dX11_feed_15 : decode cX11_feed 15 = .ok (.getfield 10, 3) := by decide +kernel
theorem dX11_feed_18 : decode cX11_feed 18 = .ok (.iload_n 1, 1) := by decide +kernel
theorem dX11_feed_19 : decode cX11_feed 19 = .ok (.invokevirtual 107, 3) := by decide +kernel
theorem dX11_feed_22 : decode cX11_feed 22 = .ok (.aload_n 0, 1) := by decide +kernel
theorem dX11_feed_23 : decode cX11_feed 23 = .ok (.getfield 10, 3) := by decide +kernel
theorem dX11_feed_26 : decode cX11_feed 26 = .ok (.iload_n 2, 1) := by decide +kernel
theorem dX11_feed_27 : decode cX11_feed 27 = .ok (.invokevirtual 107, 3) := by decide +kernel
theorem dX11_feed_30 : decode cX11_feed 30 = .ok (.aload_n 0, 1) := by decide +kernel
theorem dX11_feed_31 : decode cX11_feed 31 = .ok (.getfield 10, 3) := by decide +kernel
theorem dX11_feed_34 : decode cX11_feed 34 = .ok (.iload_n 3, 1) := by decide +kernel
theorem dX11_feed_35 : decode cX11_feed 35 = .ok (.invokevirtual 107, 3) := by decide +kernel
theorem dX11_feed_38 : decode cX11_feed 38 = .ok (.aload_n 0, 1) := by decide +kernel
theorem dX11_feed_39 : decode cX11_feed 39 = .ok (.getfield 10, 3) := by decide +kernel
theorem dX11_feed_42 : decode cX11_feed 42 = .ok (.iload 4, 2) := by decide +kernel
theorem dX11_feed_44 : decode cX11_feed 44 = .ok (.invokevirtual 107, 3) := by decide +kernel
theorem dX11_feed_47 : decode cX11_feed 47 = .ok (.aload_n 0, 1) := by decide +kernel
theorem dX11_feed_48 : decode cX11_feed 48 = .ok (.getfield 10, 3) := by decide +kernel
theorem dX11_feed_51 : decode cX11_feed 51 = .ok (.iload 5, 2) := by decide +kernel
theorem dX11_feed_53 : decode cX11_feed 53 = .ok (.invokevirtual 107, 3) := by decide +kernel
theorem dX11_feed_56 : decode cX11_feed 56 = .ok (.aload_n 0, 1) := by decide +kernel
theorem dX11_feed_57 : decode cX11_feed 57 = .ok (.getfield 10, 3) := by decide +kernel
theorem dX11_feed_60 : decode cX11_feed 60 = .ok (.getfield 111, 3) := by decide +kernel
theorem dX11_feed_63 : decode cX11_feed 63 = .ok (.ireturn, 1) := by decide +kernel
set_option maxRecDepth 20000 in
theorem ggX11_text_X9_cut : GoodIn wsX11_text wsX9_cut := goodIn_r _ [15, 16, 17, 18, 19, 20, 21, 22, 23, 24, 25, 26, 14, 27, 28, 29, 30, 31, 32, 33, 34, 35, 36, 37, 38, 39, 40, 41, 42, 43, 44, 45, 46, 47, 48, 49, 50, 51, 52, 53, 54, 55, 56, 57, 58, 59, 60, 61, 295, 296, 297, 298, 299, 300, 301, 302, 303] rfl (by decide +kernel)
set_option maxRecDepth 20000 in
theorem gX11_text_X9_cut : GoodIn wsX11_text (wsV RX11 114 RX9 yX9_cut wsX9_cut) := goodIn_app (goodIn_r _ [11, 12, 13, 14] rfl (by decide +kernel)) ggX11_text_X9_cut
set_option maxRecDepth 20000 in
theorem ggX11_text_X7_read : GoodIn wsX11_text wsX7_read := goodIn_r _ [66, 67, 68, 69, 70, 71, 72, 73, 74, 75, 76, 77, 78, 79, 80, 81, 82, 83, 84, 85, 86, 87, 88, 89, 90, 91, 92, 93, 94, 95, 96, 14, 97, 22, 36, 98, 99, 100, 65, 101, 102, 103, 104, 105, 106, 107, 108, 109, 110, 111, 112, 113, 114, 115, 116, 117, 118, 37, 119, 120, 121, 122, 123, 124, 125, 126, 127, 128, 129, 130, 131, 132, 133, 134, 135, 136, 137, 138, 139, 140, 141, 142, 143, 144, 145, 146, 147, 148, 149, 150, 151, 152, 153, 154, 155, 156, 157, 158, 159, 160, 161, 162, 163, 164, 165, 166, 167, 168, 169, 170, 171, 172, 173, 174, 175, 176, 177, 178, 179, 180, 181, 182, 183, 184, 185, 186, 187, 188, 189, 190, 191, 192, 193, 194, 195, 196, 197, 198, 199, 200, 201, 202, 203, 204, 205, 206, 207, 208, 209, 210, 211, 212, 213, 214, 215, 216, 217, 218, 219, 220, 221, 222, 223, 224, 225, 226, 227, 228, 229, 230, 231, 232, 233, 234, 235, 236, 237, 238, 304, 305, 306, 307, 308, 309, 310, 311, 312, 313, 314, 315, 316, 317, 318, 319, 320, 321, 322, 323, 324, 325, 326, 327, 328, 329, 330, 331, 332, 333, 334, 335, 336, 295, 296, 297, 298, 299, 300, 301, 302, 303] rfl (by decide +kernel)
set_option maxRecDepth 20000 in
theorem gX11_text_X7_read : GoodIn wsX11_text (wsV RX11 117 RX7 yX7_read wsX7_read) := goodIn_app (goodIn_r _ [62, 63, 64, 65] rfl (by decide +kernel)) ggX11_text_X7_read
set_option maxRecDepth 20000 in
theorem ggX11_text_X7_faultPlace : GoodIn wsX11_text wsX7_faultPlace := goodIn_r _ [242, 70, 72, 114, 243, 244, 245, 14, 246, 22, 38, 21, 304, 305, 306, 307, 308, 309, 310, 311, 312, 313, 314, 315, 295, 296, 297, 298, 299, 300, 301, 302, 303] rfl (by decide +kernel)
set_option maxRecDepth 20000 in
theorem gX11_text_X7_faultPlace : GoodIn wsX11_text (wsV RX11 124 RX7 yX7_faultPlace wsX7_faultPlace) := goodIn_app (goodIn_r _ [239, 240, 241, 65] rfl (by decide +kernel)) ggX11_text_X7_faultPlace
set_option maxRecDepth 20000 in
theorem ggX11_text_X5_begin : GoodIn wsX11_text wsX5_begin := goodIn_r _ [251, 252, 253, 254, 255, 256, 257, 258, 259, 260, 261, 262, 263, 264, 265, 266, 74, 267, 83, 79, 337, 338, 339, 340, 341, 342, 343, 344, 345, 346, 347, 348, 316, 317, 318, 319, 320, 321, 322, 323, 324, 325, 326, 327, 328, 329, 330] rfl (by decide +kernel)
set_option maxRecDepth 20000 in
theorem gX11_text_X5_begin : GoodIn wsX11_text (wsV RX11 88 RX5 yX5_begin wsX5_begin) := goodIn_app (goodIn_r _ [247, 248, 249, 250] rfl (by decide +kernel)) ggX11_text_X5_begin
set_option maxRecDepth 20000 in
theorem ggX11_text_X6_clear : GoodIn wsX11_text wsX6_clear := goodIn_r _ [272, 273, 274, 349, 350, 351, 352, 353, 354, 355, 356, 357] rfl (by decide +kernel)
set_option maxRecDepth 20000 in
theorem gX11_text_X6_clear : GoodIn wsX11_text (wsV RX11 127 RX6 yX6_clear wsX6_clear) := goodIn_app (goodIn_r _ [268, 269, 270, 271] rfl (by decide +kernel)) ggX11_text_X6_clear
set_option maxRecDepth 20000 in
theorem ggX11_text_X2_clear : GoodIn wsX11_text wsX2_clear := goodIn_r _ [279, 280, 358, 359, 360, 361, 362, 363] rfl (by decide +kernel)
set_option maxRecDepth 20000 in
theorem gX11_text_X2_clear : GoodIn wsX11_text (wsV RX11 130 RX2 yX2_clear wsX2_clear) := goodIn_app (goodIn_r _ [275, 276, 277, 278] rfl (by decide +kernel)) ggX11_text_X2_clear
theorem dX11_text_0 : decode cX11_text 0 = .ok (.iload_n 1, 1) := by decide +kernel
theorem dX11_text_1 : decode cX11_text 1 = .ok (.ifCond .lt 14, 3) := by decide +kernel
theorem dX11_text_4 : decode cX11_text 4 = .ok (.iload_n 1, 1) := by decide +kernel
theorem dX11_text_5 : decode cX11_text 5 = .ok (.aload_n 0, 1) := by decide +kernel
theorem dX11_text_6 : decode cX11_text 6 = .ok (.getfield 10, 3) := by decide +kernel
theorem dX11_text_9 : decode cX11_text 9 = .ok (.getfield 111, 3) := by decide +kernel
theorem dX11_text_12 : decode cX11_text 12 = .ok (.if_icmp .le 6, 3) := by decide +kernel
theorem dX11_text_15 : decode cX11_text 15 = .ok (.bipush (-2), 2) := by decide +kernel
theorem dX11_text_17 : decode cX11_text 17 = .ok (.ireturn, 1) := by decide +kernel
theorem dX11_text_18 : decode cX11_text 18 = .ok (.aload_n 0, 1) := by decide +kernel
theorem dX11_text_19 : decode cX11_text 19 = .ok (.getfield 10, 3) := by decide +kernel
theorem dX11_text_22 : decode cX11_text 22 = .ok (.iload_n 1, 1) := by decide +kernel
theorem dX11_text_23 : decode cX11_text 23 = .ok (.invokevirtual 114, 3) := by decide +kernel
theorem dX11_text_26 : decode cX11_text 26 = .ok (.aload_n 0, 1) := by decide +kernel
theorem dX11_text_27 : decode cX11_text 27 = .ok (.getfield 21, 3) := by decide +kernel
theorem dX11_text_30 : decode cX11_text 30 = .ok (.aload_n 0, 1) := by decide +kernel
theorem dX11_text_31 : decode cX11_text 31 = .ok (.getfield 32, 3) := by decide +kernel
theorem dX11_text_34 : decode cX11_text 34 = .ok (.invokevirtual 117, 3) := by decide +kernel
theorem dX11_text_37 : decode cX11_text 37 = .ok (.istore_n 2, 1) := by decide +kernel
theorem dX11_text_38 : decode cX11_text 38 = .ok (.aload_n 0, 1) := by decide +kernel
theorem dX11_text_39 : decode cX11_text 39 = .ok (.aload_n 0, 1) := by decide +kernel
theorem dX11_text_40 : decode cX11_text 40 = .ok (.getfield 21, 3) := by decide +kernel
theorem dX11_text_43 : decode cX11_text 43 = .ok (.getfield 121, 3) := by decide +kernel
theorem dX11_text_46 : decode cX11_text 46 = .ok (.putfield 96, 3) := by decide +kernel
theorem dX11_text_49 : decode cX11_text 49 = .ok (.aload_n 0, 1) := by decide +kernel
theorem dX11_text_50 : decode cX11_text 50 = .ok (.aload_n 0, 1) := by decide +kernel
theorem dX11_text_51 : decode cX11_text 51 = .ok (.getfield 21, 3) := by decide +kernel
theorem dX11_text_54 : decode cX11_text 54 = .ok (.invokevirtual 124, 3) := by decide +kernel
theorem dX11_text_57 : decode cX11_text 57 = .ok (.putfield 100, 3) := by decide +kernel
theorem dX11_text_60 : decode cX11_text 60 = .ok (.aload_n 0, 1) := by decide +kernel
theorem dX11_text_61 : decode cX11_text 61 = .ok (.getfield 96, 3) := by decide +kernel
theorem dX11_text_64 : decode cX11_text 64 = .ok (.ifCond .eq 5, 3) := by decide +kernel
theorem dX11_text_67 : decode cX11_text 67 = .ok (.iconst (-1), 1) := by decide +kernel
theorem dX11_text_68 : decode cX11_text 68 = .ok (.ireturn, 1) := by decide +kernel
theorem dX11_text_69 : decode cX11_text 69 = .ok (.aload_n 0, 1) := by decide +kernel
theorem dX11_text_70 : decode cX11_text 70 = .ok (.getfield 21, 3) := by decide +kernel
theorem dX11_text_73 : decode cX11_text 73 = .ok (.aload_n 0, 1) := by decide +kernel
theorem dX11_text_74 : decode cX11_text 74 = .ok (.getfield 28, 3) := by decide +kernel
theorem dX11_text_77 : decode cX11_text 77 = .ok (.invokevirtual 117, 3) := by decide +kernel
theorem dX11_text_80 : decode cX11_text 80 = .ok (.pop, 1) := by decide +kernel
theorem dX11_text_81 : decode cX11_text 81 = .ok (.aload_n 0, 1) := by decide +kernel
theorem dX11_text_82 : decode cX11_text 82 = .ok (.getfield 38, 3) := by decide +kernel
theorem dX11_text_85 : decode cX11_text 85 = .ok (.aload_n 0, 1) := by decide +kernel
theorem dX11_text_86 : decode cX11_text 86 = .ok (.getfield 28, 3) := by decide +kernel
theorem dX11_text_89 : decode cX11_text 89 = .ok (.invokevirtual 88, 3) := by decide +kernel
theorem dX11_text_92 : decode cX11_text 92 = .ok (.aload_n 0, 1) := by decide +kernel
theorem dX11_text_93 : decode cX11_text 93 = .ok (.getfield 84, 3) := by decide +kernel
theorem dX11_text_96 : decode cX11_text 96 = .ok (.invokevirtual 127, 3) := by decide +kernel
theorem dX11_text_99 : decode cX11_text 99 = .ok (.aload_n 0, 1) := by decide +kernel
theorem dX11_text_100 : decode cX11_text 100 = .ok (.getfield 50, 3) := by decide +kernel
theorem dX11_text_103 : decode cX11_text 103 = .ok (.invokevirtual 130, 3) := by decide +kernel
theorem dX11_text_106 : decode cX11_text 106 = .ok (.aload_n 0, 1) := by decide +kernel
theorem dX11_text_107 : decode cX11_text 107 = .ok (.iconst 0, 1) := by decide +kernel
theorem dX11_text_108 : decode cX11_text 108 = .ok (.putfield 92, 3) := by decide +kernel
theorem dX11_text_111 : decode cX11_text 111 = .ok (.iload_n 2, 1) := by decide +kernel
theorem dX11_text_112 : decode cX11_text 112 = .ok (.ireturn, 1) := by decide +kernel
theorem dX11_fault_0 : decode cX11_fault 0 = .ok (.iload_n 1, 1) := by decide +kernel
theorem dX11_fault_1 : decode cX11_fault 1 = .ok (.ifCond .ne 10, 3) := by decide +kernel
theorem dX11_fault_4 : decode cX11_fault 4 = .ok (.aload_n 0, 1) := by decide +kernel
theorem dX11_fault_5 : decode cX11_fault 5 = .ok (.getfield 96, 3) := by decide +kernel
theorem dX11_fault_8 : decode cX11_fault 8 = .ok (.goto 16, 3) := by decide +kernel
theorem dX11_fault_11 : decode cX11_fault 11 = .ok (.iload_n 1, 1) := by decide +kernel
theorem dX11_fault_12 : decode cX11_fault 12 = .ok (.iconst 1, 1) := by decide +kernel
theorem dX11_fault_13 : decode cX11_fault 13 = .ok (.if_icmp .ne 10, 3) := by decide +kernel
theorem dX11_fault_16 : decode cX11_fault 16 = .ok (.aload_n 0, 1) := by decide +kernel
theorem dX11_fault_17 : decode cX11_fault 17 = .ok (.getfield 100, 3) := by decide +kernel
theorem dX11_fault_20 : decode cX11_fault 20 = .ok (.goto 4, 3) := by decide +kernel
theorem dX11_fault_23 : decode cX11_fault 23 = .ok (.iconst (-1), 1) := by decide +kernel
theorem dX11_fault_24 : decode cX11_fault 24 = .ok (.ireturn, 1) := by decide +kernel
set_option maxRecDepth 20000 in
theorem ggX11_named_X0_find : GoodIn wsX11_named wsX0_find := goodIn_r _ [6, 7, 8, 23, 24, 25, 26, 27, 28, 29, 30, 31, 32, 33, 34, 35, 36, 37] rfl (by decide +kernel)
set_option maxRecDepth 20000 in
theorem gX11_named_X0_find : GoodIn wsX11_named (wsV RX11 131 RX0 yX0_find wsX0_find) := goodIn_app (goodIn_r _ [2, 3, 4, 5] rfl (by decide +kernel)) ggX11_named_X0_find
theorem dX11_named_0 : decode cX11_named 0 = .ok (.aload_n 0, 1) := by decide +kernel
theorem dX11_named_1 : decode cX11_named 1 = .ok (.getfield 28, 3) := by decide +kernel
theorem dX11_named_4 : decode cX11_named 4 = .ok (.iload_n 1, 1) := by decide +kernel
theorem dX11_named_5 : decode cX11_named 5 = .ok (.invokevirtual 131, 3) := by decide +kernel
theorem dX11_named_8 : decode cX11_named 8 = .ok (.ireturn, 1) := by decide +kernel
theorem dX11_bay_0 : decode cX11_bay 0 = .ok (.aload_n 0, 1) := by decide +kernel
theorem dX11_bay_1 : decode cX11_bay 1 = .ok (.getfield 28, 3) := by decide +kernel
theorem dX11_bay_4 : decode cX11_bay 4 = .ok (.iload_n 1, 1) := by decide +kernel
theorem dX11_bay_5 : decode cX11_bay 5 = .ok (.invokevirtual 135, 3) := by decide +kernel
theorem dX11_bay_8 : decode cX11_bay 8 = .ok (.ifCond .ne 13, 3) := by decide +kernel
theorem dX11_bay_11 : decode cX11_bay 11 = .ok (.new 138, 3) := by decide +kernel
theorem dX11_bay_14 : decode cX11_bay 14 = .ok (.dup, 1) := by decide +kernel
theorem dX11_bay_15 : decode cX11_bay 15 = .ok (.ldc 140, 2) := by decide +kernel
theorem dX11_bay_17 : decode cX11_bay 17 = .ok (.invokespecial 142, 3) := by decide +kernel
theorem dX11_bay_20 : decode cX11_bay 20 = .ok (.athrow, 1) := by decide +kernel
theorem dX11_bay_21 : decode cX11_bay 21 = .ok (.iload_n 2, 1) := by decide +kernel
theorem dX11_bay_22 : decode cX11_bay 22 = .ok (.tableswitch 76 0 3 #[30, 40, 49, 59], 30) := by decide +kernel
theorem dX11_bay_52 : decode cX11_bay 52 = .ok (.aload_n 0, 1) := by decide +kernel
theorem dX11_bay_53 : decode cX11_bay 53 = .ok (.getfield 38, 3) := by decide +kernel
theorem dX11_bay_56 : decode cX11_bay 56 = .ok (.getfield 145, 3) := by decide +kernel
theorem dX11_bay_59 : decode cX11_bay 59 = .ok (.iload_n 1, 1) := by decide +kernel
theorem dX11_bay_60 : decode cX11_bay 60 = .ok (.iaload, 1) := by decide +kernel
theorem dX11_bay_61 : decode cX11_bay 61 = .ok (.ireturn, 1) := by decide +kernel
theorem dX11_bay_62 : decode cX11_bay 62 = .ok (.aload_n 0, 1) := by decide +kernel
theorem dX11_bay_63 : decode cX11_bay 63 = .ok (.getfield 38, 3) := by decide +kernel
theorem dX11_bay_66 : decode cX11_bay 66 = .ok (.iload_n 1, 1) := by decide +kernel
theorem dX11_bay_67 : decode cX11_bay 67 = .ok (.invokevirtual 149, 3) := by decide +kernel
theorem dX11_bay_70 : decode cX11_bay 70 = .ok (.ireturn, 1) := by decide +kernel
theorem dX11_bay_71 : decode cX11_bay 71 = .ok (.aload_n 0, 1) := by decide +kernel
theorem dX11_bay_72 : decode cX11_bay 72 = .ok (.getfield 38, 3) := by decide +kernel
theorem dX11_bay_75 : decode cX11_bay 75 = .ok (.getfield 152, 3) := by decide +kernel
theorem dX11_bay_78 : decode cX11_bay 78 = .ok (.iload_n 1, 1) := by decide +kernel
theorem dX11_bay_79 : decode cX11_bay 79 = .ok (.iaload, 1) := by decide +kernel
theorem dX11_bay_80 : decode cX11_bay 80 = .ok (.ireturn, 1) := by decide +kernel
theorem dX11_bay_81 : decode cX11_bay 81 = .ok (.aload_n 0, 1) := by decide +kernel
theorem dX11_bay_82 : decode cX11_bay 82 = .ok (.getfield 38, 3) := by decide +kernel
theorem dX11_bay_85 : decode cX11_bay 85 = .ok (.getfield 155, 3) := by decide +kernel
theorem dX11_bay_88 : decode cX11_bay 88 = .ok (.iload_n 1, 1) := by decide +kernel
theorem dX11_bay_89 : decode cX11_bay 89 = .ok (.if_icmp .ne 7, 3) := by decide +kernel
theorem dX11_bay_92 : decode cX11_bay 92 = .ok (.iconst 1, 1) := by decide +kernel
theorem dX11_bay_93 : decode cX11_bay 93 = .ok (.goto 4, 3) := by decide +kernel
theorem dX11_bay_96 : decode cX11_bay 96 = .ok (.iconst 0, 1) := by decide +kernel
theorem dX11_bay_97 : decode cX11_bay 97 = .ok (.ireturn, 1) := by decide +kernel
theorem dX11_bay_98 : decode cX11_bay 98 = .ok (.new 158, 3) := by decide +kernel
theorem dX11_bay_101 : decode cX11_bay 101 = .ok (.dup, 1) := by decide +kernel
theorem dX11_bay_102 : decode cX11_bay 102 = .ok (.ldc 160, 2) := by decide +kernel
theorem dX11_bay_104 : decode cX11_bay 104 = .ok (.invokespecial 162, 3) := by decide +kernel
theorem dX11_bay_107 : decode cX11_bay 107 = .ok (.athrow, 1) := by decide +kernel
set_option maxRecDepth 20000 in
theorem ggX11_lane_X0_hasBay : GoodIn wsX11_lane wsX0_hasBay := goodIn_r _ [6, 7, 28, 29, 30, 31, 32, 33, 34, 35, 36, 37, 38, 39, 40, 41, 42] rfl (by decide +kernel)
set_option maxRecDepth 20000 in
theorem gX11_lane_X0_hasBay : GoodIn wsX11_lane (wsV RX11 135 RX0 yX0_hasBay wsX0_hasBay) := goodIn_app (goodIn_r _ [2, 3, 4, 5] rfl (by decide +kernel)) ggX11_lane_X0_hasBay
set_option maxRecDepth 20000 in
theorem ggX11_lane_X0_daysBetween : GoodIn wsX11_lane wsX0_daysBetween := goodIn_r _ [11, 12, 13, 3, 4, 5, 6, 7, 28, 29, 30, 31, 32, 33, 34, 35, 36, 37, 38, 39, 40, 41, 42] rfl (by decide +kernel)
set_option maxRecDepth 20000 in
theorem gX11_lane_X0_daysBetween : GoodIn wsX11_lane (wsV RX11 163 RX0 yX0_daysBetween wsX0_daysBetween) := goodIn_app (goodIn_r _ [8, 9, 10, 5] rfl (by decide +kernel)) ggX11_lane_X0_daysBetween
theorem dX11_lane_0 : decode cX11_lane 0 = .ok (.aload_n 0, 1) := by decide +kernel
theorem dX11_lane_1 : decode cX11_lane 1 = .ok (.getfield 28, 3) := by decide +kernel
theorem dX11_lane_4 : decode cX11_lane 4 = .ok (.iload_n 1, 1) := by decide +kernel
theorem dX11_lane_5 : decode cX11_lane 5 = .ok (.invokevirtual 135, 3) := by decide +kernel
theorem dX11_lane_8 : decode cX11_lane 8 = .ok (.ifCond .eq 14, 3) := by decide +kernel
theorem dX11_lane_11 : decode cX11_lane 11 = .ok (.aload_n 0, 1) := by decide +kernel
theorem dX11_lane_12 : decode cX11_lane 12 = .ok (.getfield 28, 3) := by decide +kernel
theorem dX11_lane_15 : decode cX11_lane 15 = .ok (.iload_n 2, 1) := by decide +kernel
theorem dX11_lane_16 : decode cX11_lane 16 = .ok (.invokevirtual 135, 3) := by decide +kernel
theorem dX11_lane_19 : decode cX11_lane 19 = .ok (.ifCond .ne 5, 3) := by decide +kernel
theorem dX11_lane_22 : decode cX11_lane 22 = .ok (.iconst (-1), 1) := by decide +kernel
theorem dX11_lane_23 : decode cX11_lane 23 = .ok (.ireturn, 1) := by decide +kernel
theorem dX11_lane_24 : decode cX11_lane 24 = .ok (.aload_n 0, 1) := by decide +kernel
theorem dX11_lane_25 : decode cX11_lane 25 = .ok (.getfield 28, 3) := by decide +kernel
theorem dX11_lane_28 : decode cX11_lane 28 = .ok (.iload_n 1, 1) := by decide +kernel
theorem dX11_lane_29 : decode cX11_lane 29 = .ok (.iload_n 2, 1) := by decide +kernel
theorem dX11_lane_30 : decode cX11_lane 30 = .ok (.invokevirtual 163, 3) := by decide +kernel
theorem dX11_lane_33 : decode cX11_lane 33 = .ok (.ireturn, 1) := by decide +kernel
set_option maxRecDepth 20000 in
theorem ggX11_deed_X0_hasDeed : GoodIn wsX11_deed wsX0_hasDeed := goodIn_r _ [6, 7, 22, 23, 24, 25, 26, 27, 28, 29, 30, 31, 32, 33, 34, 35, 36] rfl (by decide +kernel)
set_option maxRecDepth 20000 in
theorem gX11_deed_X0_hasDeed : GoodIn wsX11_deed (wsV RX11 167 RX0 yX0_hasDeed wsX0_hasDeed) := goodIn_app (goodIn_r _ [2, 3, 4, 5] rfl (by decide +kernel)) ggX11_deed_X0_hasDeed
theorem dX11_deed_0 : decode cX11_deed 0 = .ok (.aload_n 0, 1) := by decide +kernel
theorem dX11_deed_1 : decode cX11_deed 1 = .ok (.getfield 28, 3) := by decide +kernel
theorem dX11_deed_4 : decode cX11_deed 4 = .ok (.iload_n 1, 1) := by decide +kernel
theorem dX11_deed_5 : decode cX11_deed 5 = .ok (.invokevirtual 167, 3) := by decide +kernel
theorem dX11_deed_8 : decode cX11_deed 8 = .ok (.ifCond .ne 5, 3) := by decide +kernel
theorem dX11_deed_11 : decode cX11_deed 11 = .ok (.iconst (-1), 1) := by decide +kernel
theorem dX11_deed_12 : decode cX11_deed 12 = .ok (.ireturn, 1) := by decide +kernel
theorem dX11_deed_13 : decode cX11_deed 13 = .ok (.iload_n 2, 1) := by decide +kernel
theorem dX11_deed_14 : decode cX11_deed 14 = .ok (.tableswitch 56 0 2 #[26, 36, 46], 26) := by decide +kernel
theorem dX11_deed_40 : decode cX11_deed 40 = .ok (.aload_n 0, 1) := by decide +kernel
theorem dX11_deed_41 : decode cX11_deed 41 = .ok (.getfield 28, 3) := by decide +kernel
theorem dX11_deed_44 : decode cX11_deed 44 = .ok (.getfield 170, 3) := by decide +kernel
theorem dX11_deed_47 : decode cX11_deed 47 = .ok (.iload_n 1, 1) := by decide +kernel
theorem dX11_deed_48 : decode cX11_deed 48 = .ok (.iaload, 1) := by decide +kernel
theorem dX11_deed_49 : decode cX11_deed 49 = .ok (.ireturn, 1) := by decide +kernel
theorem dX11_deed_50 : decode cX11_deed 50 = .ok (.aload_n 0, 1) := by decide +kernel
theorem dX11_deed_51 : decode cX11_deed 51 = .ok (.getfield 28, 3) := by decide +kernel
theorem dX11_deed_54 : decode cX11_deed 54 = .ok (.getfield 173, 3) := by decide +kernel
theorem dX11_deed_57 : decode cX11_deed 57 = .ok (.iload_n 1, 1) := by decide +kernel
theorem dX11_deed_58 : decode cX11_deed 58 = .ok (.iaload, 1) := by decide +kernel
theorem dX11_deed_59 : decode cX11_deed 59 = .ok (.ireturn, 1) := by decide +kernel
theorem dX11_deed_60 : decode cX11_deed 60 = .ok (.aload_n 0, 1) := by decide +kernel
theorem dX11_deed_61 : decode cX11_deed 61 = .ok (.getfield 28, 3) := by decide +kernel
theorem dX11_deed_64 : decode cX11_deed 64 = .ok (.getfield 176, 3) := by decide +kernel
theorem dX11_deed_67 : decode cX11_deed 67 = .ok (.iload_n 1, 1) := by decide +kernel
theorem dX11_deed_68 : decode cX11_deed 68 = .ok (.iaload, 1) := by decide +kernel
theorem dX11_deed_69 : decode cX11_deed 69 = .ok (.ireturn, 1) := by decide +kernel
theorem dX11_deed_70 : decode cX11_deed 70 = .ok (.iconst (-1), 1) := by decide +kernel
theorem dX11_deed_71 : decode cX11_deed 71 = .ok (.ireturn, 1) := by decide +kernel
set_option maxRecDepth 20000 in
theorem ggX11_wind_X0_galeOf : GoodIn wsX11_wind wsX0_galeOf := goodIn_r _ [6, 7, 8, 23, 24, 25, 26, 27, 28, 29, 30, 31, 32, 33, 34, 35, 36, 37] rfl (by decide +kernel)
set_option maxRecDepth 20000 in
theorem gX11_wind_X0_galeOf : GoodIn wsX11_wind (wsV RX11 179 RX0 yX0_galeOf wsX0_galeOf) := goodIn_app (goodIn_r _ [2, 3, 4, 5] rfl (by decide +kernel)) ggX11_wind_X0_galeOf
theorem dX11_wind_0 : decode cX11_wind 0 = .ok (.iload_n 1, 1) := by decide +kernel
theorem dX11_wind_1 : decode cX11_wind 1 = .ok (.ifCond .lt 10, 3) := by decide +kernel
theorem dX11_wind_4 : decode cX11_wind 4 = .ok (.iload_n 1, 1) := by decide +kernel
theorem dX11_wind_5 : decode cX11_wind 5 = .ok (.sipush 9999, 3) := by decide +kernel
theorem dX11_wind_8 : decode cX11_wind 8 = .ok (.if_icmp .le 7, 3) := by decide +kernel
theorem dX11_wind_11 : decode cX11_wind 11 = .ok (.iconst (-1), 1) := by decide +kernel
theorem dX11_wind_12 : decode cX11_wind 12 = .ok (.goto 11, 3) := by decide +kernel
theorem dX11_wind_15 : decode cX11_wind 15 = .ok (.aload_n 0, 1) := by decide +kernel
theorem dX11_wind_16 : decode cX11_wind 16 = .ok (.getfield 28, 3) := by decide +kernel
theorem dX11_wind_19 : decode cX11_wind 19 = .ok (.iload_n 1, 1) := by decide +kernel
theorem dX11_wind_20 : decode cX11_wind 20 = .ok (.invokevirtual 179, 3) := by decide +kernel
theorem dX11_wind_23 : decode cX11_wind 23 = .ok (.ireturn, 1) := by decide +kernel
set_option maxRecDepth 20000 in
theorem ggX11_mood_X11_canForesee : GoodIn wsX11_mood wsX11_canForesee := goodIn_r _ [6, 7, 8, 9, 10, 11, 12, 13, 14, 96, 97, 98, 99, 100, 101, 102, 103, 104, 105, 106, 107, 108, 109, 110, 111, 112, 113, 114, 115, 116, 117, 118, 119, 120, 121, 122, 123, 124, 125, 126, 127, 128, 129, 130, 131, 132, 133, 134, 135, 136] rfl (by decide +kernel)
set_option maxRecDepth 20000 in
theorem gX11_mood_X11_canForesee : GoodIn wsX11_mood (wsV RX11 182 RX11 yX11_canForesee wsX11_canForesee) := goodIn_app (goodIn_r _ [2, 3, 4, 5] rfl (by decide +kernel)) ggX11_mood_X11_canForesee
set_option maxRecDepth 20000 in
theorem ggX11_mood_X3_moodOf : GoodIn wsX11_mood wsX3_moodOf := goodIn_r _ [19, 20, 21, 22, 23, 24, 25, 26, 27, 28, 29, 30, 31, 32, 33, 34, 35, 36, 37, 18, 38, 39, 40, 41, 42, 43, 44, 45, 46, 47, 48, 49, 50, 51, 52, 12, 53, 54, 55, 56, 57, 58, 59, 60, 61, 62, 63, 64, 65, 66, 67, 68, 69, 70, 71, 72, 73, 74, 75, 76, 77, 78, 79, 80, 81, 82, 83, 84, 85, 86, 87, 88, 89, 90, 91, 92, 93, 94, 95, 137, 138, 139, 140, 141, 122, 123, 124, 125, 126, 127, 128, 129, 130, 131, 132, 133, 134, 135, 136, 142, 143, 144, 145, 146, 147, 148, 149, 110, 111, 112, 113, 114, 115, 116, 117, 118, 119, 120, 121, 150, 151, 152, 153, 154, 155] rfl (by decide +kernel)
set_option maxRecDepth 20000 in
theorem gX11_mood_X3_moodOf : GoodIn wsX11_mood (wsV RX11 186 RX3 yX3_moodOf wsX3_moodOf) := goodIn_app (goodIn_r _ [15, 16, 17, 18] rfl (by decide +kernel)) ggX11_mood_X3_moodOf
theorem dX11_mood_0 : decode cX11_mood 0 = .ok (.aload_n 0, 1) := by decide +kernel
theorem dX11_mood_1 : decode cX11_mood 1 = .ok (.iload_n 1, 1) := by decide +kernel
theorem dX11_mood_2 : decode cX11_mood 2 = .ok (.iload_n 2, 1) := by decide +kernel
theorem dX11_mood_3 : decode cX11_mood 3 = .ok (.invokevirtual 182, 3) := by decide +kernel
theorem dX11_mood_6 : decode cX11_mood 6 = .ok (.ifCond .ne 5, 3) := by decide +kernel
theorem dX11_mood_9 : decode cX11_mood 9 = .ok (.iconst (-1), 1) := by decide +kernel
theorem dX11_mood_10 : decode cX11_mood 10 = .ok (.ireturn, 1) := by decide +kernel
theorem dX11_mood_11 : decode cX11_mood 11 = .ok (.aload_n 0, 1) := by decide +kernel
theorem dX11_mood_12 : decode cX11_mood 12 = .ok (.getfield 59, 3) := by decide +kernel
theorem dX11_mood_15 : decode cX11_mood 15 = .ok (.iload_n 1, 1) := by decide +kernel
theorem dX11_mood_16 : decode cX11_mood 16 = .ok (.iload_n 2, 1) := by decide +kernel
theorem dX11_mood_17 : decode cX11_mood 17 = .ok (.invokevirtual 186, 3) := by decide +kernel
theorem dX11_mood_20 : decode cX11_mood 20 = .ok (.ireturn, 1) := by decide +kernel
set_option maxRecDepth 20000 in
theorem ggX11_holds_X11_canForesee : GoodIn wsX11_holds wsX11_canForesee := goodIn_r _ [6, 7, 8, 9, 10, 11, 12, 13, 14, 100, 101, 102, 103, 104, 105, 106, 107, 108, 109, 110, 111, 112, 113, 114, 115, 116, 117, 118, 119, 120, 121, 122, 123, 124, 125, 126, 127, 128, 129, 130, 131, 132, 133, 134, 135, 136, 137, 138, 139, 140] rfl (by decide +kernel)
set_option maxRecDepth 20000 in
theorem gX11_holds_X11_canForesee : GoodIn wsX11_holds (wsV RX11 182 RX11 yX11_canForesee wsX11_canForesee) := goodIn_app (goodIn_r _ [2, 3, 4, 5] rfl (by decide +kernel)) ggX11_holds_X11_canForesee
set_option maxRecDepth 20000 in
theorem ggX11_holds_X3_sees : GoodIn wsX11_holds wsX3_sees := goodIn_r _ [19, 20, 21, 22, 23, 24, 25, 26, 27, 28, 29, 30, 31, 32, 33, 34, 35, 36, 37, 18, 38, 39, 40, 41, 42, 43, 44, 45, 46, 47, 48, 49, 50, 51, 52, 12, 53, 54, 55, 56, 57, 58, 59, 60, 61, 62, 63, 64, 65, 66, 67, 68, 69, 70, 71, 72, 73, 74, 75, 76, 77, 78, 79, 80, 81, 82, 83, 84, 85, 86, 87, 88, 89, 90, 91, 92, 93, 94, 95, 96, 97, 98, 99, 141, 142, 143, 144, 145, 126, 127, 128, 129, 130, 131, 132, 133, 134, 135, 136, 137, 138, 139, 140, 114, 115, 116, 117, 118, 119, 120, 121, 122, 123, 124, 125, 146, 147, 148, 149, 150, 151, 152, 153, 154, 155, 156, 157, 158, 159] rfl (by decide +kernel)
set_option maxRecDepth 20000 in
theorem gX11_holds_X3_sees : GoodIn wsX11_holds (wsV RX11 189 RX3 yX3_sees wsX3_sees) := goodIn_app (goodIn_r _ [15, 16, 17, 18] rfl (by decide +kernel)) ggX11_holds_X3_sees
theorem dX11_holds_0 : decode cX11_holds 0 = .ok (.aload_n 0, 1) := by decide +kernel
theorem dX11_holds_1 : decode cX11_holds 1 = .ok (.iload_n 1, 1) := by decide +kernel
theorem dX11_holds_2 : decode cX11_holds 2 = .ok (.iload_n 2, 1) := by decide +kernel
theorem dX11_holds_3 : decode cX11_holds 3 = .ok (.invokevirtual 182, 3) := by decide +kernel
theorem dX11_holds_6 : decode cX11_holds 6 = .ok (.ifCond .ne 5, 3) := by decide +kernel
theorem dX11_holds_9 : decode cX11_holds 9 = .ok (.iconst (-1), 1) := by decide +kernel
theorem dX11_holds_10 : decode cX11_holds 10 = .ok (.ireturn, 1) := by decide +kernel
theorem dX11_holds_11 : decode cX11_holds 11 = .ok (.aload_n 0, 1) := by decide +kernel
theorem dX11_holds_12 : decode cX11_holds 12 = .ok (.getfield 59, 3) := by decide +kernel
theorem dX11_holds_15 : decode cX11_holds 15 = .ok (.iload_n 1, 1) := by decide +kernel
theorem dX11_holds_16 : decode cX11_holds 16 = .ok (.iload_n 2, 1) := by decide +kernel
theorem dX11_holds_17 : decode cX11_holds 17 = .ok (.invokevirtual 189, 3) := by decide +kernel
theorem dX11_holds_20 : decode cX11_holds 20 = .ok (.ifCond .eq 7, 3) := by decide +kernel
theorem dX11_holds_23 : decode cX11_holds 23 = .ok (.iconst 1, 1) := by decide +kernel
theorem dX11_holds_24 : decode cX11_holds 24 = .ok (.goto 4, 3) := by decide +kernel
theorem dX11_holds_27 : decode cX11_holds 27 = .ok (.iconst 0, 1) := by decide +kernel
theorem dX11_holds_28 : decode cX11_holds 28 = .ok (.ireturn, 1) := by decide +kernel
set_option maxRecDepth 20000 in
theorem ggX11_law_X0_hasBay : GoodIn wsX11_law wsX0_hasBay := goodIn_r _ [9, 10, 113, 114, 115, 116, 117, 118, 119, 120, 121, 122, 123, 124, 125, 126, 127] rfl (by decide +kernel)
set_option maxRecDepth 20000 in
theorem gX11_law_X0_hasBay : GoodIn wsX11_law (wsV RX11 135 RX0 yX0_hasBay wsX0_hasBay) := goodIn_app (goodIn_r _ [5, 6, 7, 8] rfl (by decide +kernel)) ggX11_law_X0_hasBay
set_option maxRecDepth 20000 in
theorem ggX11_law_X8_recall : GoodIn wsX11_law wsX8_recall := goodIn_r _ [15, 16, 17, 18, 19, 20, 21, 14, 22, 93, 94, 95, 96, 97, 98, 99, 100, 101, 102, 103, 104, 105, 106, 107, 108, 109, 110, 111, 112] rfl (by decide +kernel)
set_option maxRecDepth 20000 in
theorem gX11_law_X8_recall : GoodIn wsX11_law (wsV RX11 198 RX8 yX8_recall wsX8_recall) := goodIn_app (goodIn_r _ [11, 12, 13, 14] rfl (by decide +kernel)) ggX11_law_X8_recall
set_option maxRecDepth 20000 in
theorem ggX11_law_X0_galeOf : GoodIn wsX11_law wsX0_galeOf := goodIn_r _ [26, 27, 28, 113, 114, 115, 116, 117, 118, 119, 120, 121, 122, 123, 124, 125, 126, 127] rfl (by decide +kernel)
set_option maxRecDepth 20000 in
theorem gX11_law_X0_galeOf : GoodIn wsX11_law (wsV RX11 179 RX0 yX0_galeOf wsX0_galeOf) := goodIn_app (goodIn_r _ [23, 24, 25, 8] rfl (by decide +kernel)) ggX11_law_X0_galeOf
set_option maxRecDepth 20000 in
theorem ggX11_law_X8_set : GoodIn wsX11_law wsX8_set := goodIn_r _ [32, 33, 34, 35, 18, 36, 37, 38, 39, 40, 105, 106, 107, 108, 109, 110, 111, 112] rfl (by decide +kernel)
set_option maxRecDepth 20000 in
theorem gX11_law_X8_set : GoodIn wsX11_law (wsV RX11 207 RX8 yX8_set wsX8_set) := goodIn_app (goodIn_r _ [29, 30, 31, 14] rfl (by decide +kernel)) ggX11_law_X8_set
set_option maxRecDepth 20000 in
theorem ggX11_law_X4_feel : GoodIn wsX11_law wsX4_feel := goodIn_r _ [45, 46, 47, 48, 49, 38, 50, 51, 52, 53, 54, 55, 56, 44, 57, 58, 59, 60, 61, 62, 63, 64, 65, 14, 66, 16, 40, 17, 34, 33, 67, 35, 68, 69, 70, 71, 72, 105, 106, 107, 108, 109, 110, 111, 112, 128, 129, 130, 131, 132, 133] rfl (by decide +kernel)
set_option maxRecDepth 20000 in
theorem gX11_law_X4_feel : GoodIn wsX11_law (wsV RX11 218 RX4 yX4_feel wsX4_feel) := goodIn_app (goodIn_r _ [41, 42, 43, 44] rfl (by decide +kernel)) ggX11_law_X4_feel
set_option maxRecDepth 20000 in
theorem ggX11_law_X4_worth : GoodIn wsX11_law wsX4_worth := goodIn_r _ [57, 58, 59, 46, 60, 61, 62, 63, 64, 65, 14, 66, 16, 40, 17, 34, 33, 67, 35, 68, 69, 44, 70, 71, 72, 128, 129, 130, 131, 132, 133, 105, 106, 107, 108, 109, 110, 111, 112] rfl (by decide +kernel)
set_option maxRecDepth 20000 in
theorem gX11_law_X4_worth : GoodIn wsX11_law (wsV RX11 224 RX4 yX4_worth wsX4_worth) := goodIn_app (goodIn_r _ [73, 55, 56, 44] rfl (by decide +kernel)) ggX11_law_X4_worth
theorem dX11_law_0 : decode cX11_law 0 = .ok (.iload_n 1, 1) := by decide +kernel
theorem dX11_law_1 : decode cX11_law 1 = .ok (.ifCond .lt 19, 3) := by decide +kernel
theorem dX11_law_4 : decode cX11_law 4 = .ok (.iload_n 1, 1) := by decide +kernel
theorem dX11_law_5 : decode cX11_law 5 = .ok (.iconst 3, 1) := by decide +kernel
theorem dX11_law_6 : decode cX11_law 6 = .ok (.if_icmp .ge 14, 3) := by decide +kernel
theorem dX11_law_9 : decode cX11_law 9 = .ok (.aload_n 0, 1) := by decide +kernel
theorem dX11_law_10 : decode cX11_law 10 = .ok (.getfield 28, 3) := by decide +kernel
theorem dX11_law_13 : decode cX11_law 13 = .ok (.iload_n 2, 1) := by decide +kernel
theorem dX11_law_14 : decode cX11_law 14 = .ok (.invokevirtual 135, 3) := by decide +kernel
theorem dX11_law_17 : decode cX11_law 17 = .ok (.ifCond .ne 7, 3) := by decide +kernel
theorem dX11_law_20 : decode cX11_law 20 = .ok (.ldc2_w 192, 3) := by decide +kernel
theorem dX11_law_23 : decode cX11_law 23 = .ok (.lreturn, 1) := by decide +kernel
