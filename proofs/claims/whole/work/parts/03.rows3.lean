theorem dX12_negation_17 : decode cX12_negation 17 = .ok (.aload_n 0, 1) := by decide +kernel
theorem dX12_negation_18 : decode cX12_negation 18 = .ok (.invokevirtual 276, 3) := by decide +kernel
theorem dX12_negation_21 : decode cX12_negation 21 = .ok (.aload_n 0, 1) := by decide +kernel
theorem dX12_negation_22 : decode cX12_negation 22 = .ok (.iconst 2, 1) := by decide +kernel
theorem dX12_negation_23 : decode cX12_negation 23 = .ok (.sipush 260, 3) := by decide +kernel
theorem dX12_negation_26 : decode cX12_negation 26 = .ok (.invokevirtual 273, 3) := by decide +kernel
theorem dX12_negation_29 : decode cX12_negation 29 = .ok (.return_, 1) := by decide +kernel
theorem dX12_negation_30 : decode cX12_negation 30 = .ok (.aload_n 0, 1) := by decide +kernel
theorem dX12_negation_31 : decode cX12_negation 31 = .ok (.invokevirtual 279, 3) := by decide +kernel
theorem dX12_negation_34 : decode cX12_negation 34 = .ok (.aload_n 0, 1) := by decide +kernel
theorem dX12_negation_35 : decode cX12_negation 35 = .ok (.getfield 199, 3) := by decide +kernel
theorem dX12_negation_38 : decode cX12_negation 38 = .ok (.ifCond .ne 48, 3) := by decide +kernel
theorem dX12_negation_41 : decode cX12_negation 41 = .ok (.aload_n 0, 1) := by decide +kernel
theorem dX12_negation_42 : decode cX12_negation 42 = .ok (.getfield 164, 3) := by decide +kernel
theorem dX12_negation_45 : decode cX12_negation 45 = .ok (.iconst 3, 1) := by decide +kernel
theorem dX12_negation_46 : decode cX12_negation 46 = .ok (.if_icmp .ne 40, 3) := by decide +kernel
theorem dX12_negation_49 : decode cX12_negation 49 = .ok (.aload_n 0, 1) := by decide +kernel
theorem dX12_negation_50 : decode cX12_negation 50 = .ok (.getfield 174, 3) := by decide +kernel
theorem dX12_negation_53 : decode cX12_negation 53 = .ok (.bipush 60, 2) := by decide +kernel
theorem dX12_negation_55 : decode cX12_negation 55 = .ok (.if_icmp .eq 32, 3) := by decide +kernel
theorem dX12_negation_58 : decode cX12_negation 58 = .ok (.aload_n 0, 1) := by decide +kernel
theorem dX12_negation_59 : decode cX12_negation 59 = .ok (.getfield 174, 3) := by decide +kernel
theorem dX12_negation_62 : decode cX12_negation 62 = .ok (.bipush 62, 2) := by decide +kernel
theorem dX12_negation_64 : decode cX12_negation 64 = .ok (.if_icmp .eq 23, 3) := by decide +kernel
theorem dX12_negation_67 : decode cX12_negation 67 = .ok (.aload_n 0, 1) := by decide +kernel
theorem dX12_negation_68 : decode cX12_negation 68 = .ok (.getfield 174, 3) := by decide +kernel
theorem dX12_negation_71 : decode cX12_negation 71 = .ok (.bipush 61, 2) := by decide +kernel
theorem dX12_negation_73 : decode cX12_negation 73 = .ok (.if_icmp .eq 14, 3) := by decide +kernel
theorem dX12_negation_76 : decode cX12_negation 76 = .ok (.aload_n 0, 1) := by decide +kernel
theorem dX12_negation_77 : decode cX12_negation 77 = .ok (.getfield 174, 3) := by decide +kernel
theorem dX12_negation_80 : decode cX12_negation 80 = .ok (.sipush 256, 3) := by decide +kernel
theorem dX12_negation_83 : decode cX12_negation 83 = .ok (.if_icmp .ge 4, 3) := by decide +kernel
theorem dX12_negation_86 : decode cX12_negation 86 = .ok (.return_, 1) := by decide +kernel
theorem dX12_negation_87 : decode cX12_negation 87 = .ok (.aload_n 0, 1) := by decide +kernel
theorem dX12_negation_88 : decode cX12_negation 88 = .ok (.getfield 174, 3) := by decide +kernel
theorem dX12_negation_91 : decode cX12_negation 91 = .ok (.istore_n 1, 1) := by decide +kernel
theorem dX12_negation_92 : decode cX12_negation 92 = .ok (.aload_n 0, 1) := by decide +kernel
theorem dX12_negation_93 : decode cX12_negation 93 = .ok (.invokevirtual 270, 3) := by decide +kernel
theorem dX12_negation_96 : decode cX12_negation 96 = .ok (.aload_n 0, 1) := by decide +kernel
theorem dX12_negation_97 : decode cX12_negation 97 = .ok (.invokevirtual 222, 3) := by decide +kernel
theorem dX12_negation_100 : decode cX12_negation 100 = .ok (.aload_n 0, 1) := by decide +kernel
theorem dX12_negation_101 : decode cX12_negation 101 = .ok (.invokevirtual 279, 3) := by decide +kernel
theorem dX12_negation_104 : decode cX12_negation 104 = .ok (.aload_n 0, 1) := by decide +kernel
theorem dX12_negation_105 : decode cX12_negation 105 = .ok (.iconst 2, 1) := by decide +kernel
theorem dX12_negation_106 : decode cX12_negation 106 = .ok (.iload_n 1, 1) := by decide +kernel
theorem dX12_negation_107 : decode cX12_negation 107 = .ok (.invokevirtual 273, 3) := by decide +kernel
theorem dX12_negation_110 : decode cX12_negation 110 = .ok (.return_, 1) := by decide +kernel
set_option maxRecDepth 20000 in
theorem ggX12_sum_X12_product : GoodIn wsX12_sum wsX12_product := goodIn_r _ [142, 1, 143, 144, 145, 5, 6, 7, 8, 9, 10, 11, 12, 13, 14, 15, 16, 17, 18, 19, 20, 21, 22, 23, 24, 25, 26, 27, 28, 29, 30, 31, 32, 33, 34, 35, 36, 37, 38, 39, 40, 41, 42, 43, 44, 45, 46, 47, 48, 49, 50, 51, 52, 53, 54, 55, 56, 57, 58, 59, 60, 61, 62, 63, 64, 65, 66, 67, 68, 69, 70, 71, 72, 73, 74, 75, 76, 77, 78, 79, 80, 81, 82, 83, 84, 85, 86, 87, 88, 89, 90, 91, 92, 93, 94, 95, 96, 97, 98, 99, 100, 101, 102, 103, 104, 105, 106, 107, 108, 109, 110, 111, 112, 113, 114, 115, 116, 117, 118, 119, 120, 121, 122, 123, 124, 125, 126, 127, 128, 129, 130, 131, 132, 133, 134, 135, 136, 137, 138, 139, 140, 141, 0, 2, 3, 4, 146, 147, 148, 149, 150, 151, 152, 153, 154, 155, 156, 157, 158, 159, 160, 161, 162, 163, 164, 165, 166, 167, 168, 169, 170, 171, 172, 173, 174, 175, 176, 177, 178, 179, 180, 181, 182, 183, 184, 185, 186, 187, 188, 189, 190, 191, 192, 193, 194, 195, 196, 197, 198, 199, 200, 201, 202, 203, 204, 205, 206, 207, 208, 209, 210, 211] rfl (by decide +kernel)
set_option maxRecDepth 20000 in
theorem gX12_sum_X12_product : GoodIn wsX12_sum (wsV RX12 282 RX12 yX12_product wsX12_product) := goodIn_app (goodIn_r _ [2, 3, 4, 5] rfl (by decide +kernel)) ggX12_sum_X12_product
set_option maxRecDepth 20000 in
theorem ggX12_sum_X12_isSign : GoodIn wsX12_sum wsX12_isSign := goodIn_r _ [9, 10, 11, 1, 146, 147, 148, 149, 150, 151, 152, 153, 154, 155, 156, 157, 158, 159, 160, 161, 162, 163, 164, 165, 166, 167, 168, 169, 170, 171, 172, 173, 174, 175, 176, 177, 178, 179, 180, 181, 182, 183, 184, 185, 186, 187, 188, 189, 190, 191, 192, 193, 194, 195, 196, 197, 198, 199, 200, 201, 202, 203, 204, 205, 206, 207, 208, 209, 210, 211] rfl (by decide +kernel)
set_option maxRecDepth 20000 in
theorem gX12_sum_X12_isSign : GoodIn wsX12_sum (wsV RX12 252 RX12 yX12_isSign wsX12_isSign) := goodIn_app (goodIn_r _ [6, 7, 8, 5] rfl (by decide +kernel)) ggX12_sum_X12_isSign
set_option maxRecDepth 20000 in
theorem ggX12_sum_X12_knot : GoodIn wsX12_sum wsX12_knot := goodIn_r _ [15, 10, 16, 17, 18, 19, 5, 20, 21, 22, 146, 147, 148, 149, 150, 151, 152, 153, 154, 155, 156, 157, 158, 159, 160, 161, 162, 163, 164, 165, 166, 167, 168, 169, 170, 171, 172, 173, 174, 175, 176, 177, 178, 179, 180, 181, 182, 183, 184, 185, 186, 187, 188, 189, 190, 191, 192, 193, 194, 195, 196, 197, 198, 199, 200, 201, 202, 203, 204, 205, 206, 207, 208, 209, 210, 211] rfl (by decide +kernel)
set_option maxRecDepth 20000 in
theorem gX12_sum_X12_knot : GoodIn wsX12_sum (wsV RX12 270 RX12 yX12_knot wsX12_knot) := goodIn_app (goodIn_r _ [12, 13, 14, 5] rfl (by decide +kernel)) ggX12_sum_X12_knot
set_option maxRecDepth 20000 in
theorem ggX12_sum_X12_goOn : GoodIn wsX12_sum wsX12_goOn := goodIn_r _ [26, 10, 27, 28, 29, 5, 30, 31, 21, 11, 1, 32, 33, 34, 35, 36, 37, 38, 39, 40, 41, 42, 43, 44, 45, 46, 47, 48, 49, 50, 51, 52, 53, 54, 55, 56, 57, 58, 59, 60, 61, 62, 63, 64, 65, 66, 67, 68, 69, 70, 71, 72, 73, 74, 75, 76, 77, 78, 79, 80, 81, 82, 83, 84, 85, 86, 87, 88, 89, 90, 91, 92, 93, 94, 95, 96, 97, 98, 99, 100, 101, 102, 103, 104, 105, 146, 147, 148, 149, 150, 151, 152, 153, 154, 155, 156, 157, 158, 159, 160, 161, 162, 163, 164, 165, 166, 167, 168, 169, 170, 171, 172, 173, 174, 175, 176, 177, 178, 179, 180, 181, 182, 183, 184, 185, 186, 187, 188, 189, 190, 191, 192, 193, 194, 195, 196, 197, 198, 199, 200, 201, 202, 203, 204, 205, 206, 207, 208, 209, 210, 211] rfl (by decide +kernel)
set_option maxRecDepth 20000 in
theorem gX12_sum_X12_goOn : GoodIn wsX12_sum (wsV RX12 222 RX12 yX12_goOn wsX12_goOn) := goodIn_app (goodIn_r _ [23, 24, 25, 5] rfl (by decide +kernel)) ggX12_sum_X12_goOn
set_option maxRecDepth 20000 in
theorem ggX12_sum_X12_puts : GoodIn wsX12_sum wsX12_puts := goodIn_r _ [109, 10, 110, 111, 112, 113, 114, 5, 115, 116, 117, 118, 119, 120, 146, 147, 148, 149, 150, 151, 152, 153, 154, 155, 156, 157, 158, 159, 160, 161, 162, 163, 164, 165, 166, 167, 168, 169, 170, 171, 172, 173, 174, 175, 176, 177, 178, 179, 180, 181, 182, 183, 184, 185, 186, 187, 188, 189, 190, 191, 192, 193, 194, 195, 196, 197, 198, 199, 200, 201, 202, 203, 204, 205, 206, 207, 208, 209, 210, 211] rfl (by decide +kernel)
set_option maxRecDepth 20000 in
theorem gX12_sum_X12_puts : GoodIn wsX12_sum (wsV RX12 273 RX12 yX12_puts wsX12_puts) := goodIn_app (goodIn_r _ [106, 107, 108, 5] rfl (by decide +kernel)) ggX12_sum_X12_puts
theorem dX12_sum_0 : decode cX12_sum 0 = .ok (.aload_n 0, 1) := by decide +kernel
theorem dX12_sum_1 : decode cX12_sum 1 = .ok (.invokevirtual 282, 3) := by decide +kernel
theorem dX12_sum_4 : decode cX12_sum 4 = .ok (.aload_n 0, 1) := by decide +kernel
theorem dX12_sum_5 : decode cX12_sum 5 = .ok (.bipush 43, 2) := by decide +kernel
theorem dX12_sum_7 : decode cX12_sum 7 = .ok (.invokevirtual 252, 3) := by decide +kernel
theorem dX12_sum_10 : decode cX12_sum 10 = .ok (.ifCond .ne 12, 3) := by decide +kernel
theorem dX12_sum_13 : decode cX12_sum 13 = .ok (.aload_n 0, 1) := by decide +kernel
theorem dX12_sum_14 : decode cX12_sum 14 = .ok (.bipush 45, 2) := by decide +kernel
theorem dX12_sum_16 : decode cX12_sum 16 = .ok (.invokevirtual 252, 3) := by decide +kernel
theorem dX12_sum_19 : decode cX12_sum 19 = .ok (.ifCond .eq 29, 3) := by decide +kernel
theorem dX12_sum_22 : decode cX12_sum 22 = .ok (.aload_n 0, 1) := by decide +kernel
theorem dX12_sum_23 : decode cX12_sum 23 = .ok (.getfield 174, 3) := by decide +kernel
theorem dX12_sum_26 : decode cX12_sum 26 = .ok (.istore_n 1, 1) := by decide +kernel
theorem dX12_sum_27 : decode cX12_sum 27 = .ok (.aload_n 0, 1) := by decide +kernel
theorem dX12_sum_28 : decode cX12_sum 28 = .ok (.invokevirtual 270, 3) := by decide +kernel
theorem dX12_sum_31 : decode cX12_sum 31 = .ok (.aload_n 0, 1) := by decide +kernel
theorem dX12_sum_32 : decode cX12_sum 32 = .ok (.invokevirtual 222, 3) := by decide +kernel
theorem dX12_sum_35 : decode cX12_sum 35 = .ok (.aload_n 0, 1) := by decide +kernel
theorem dX12_sum_36 : decode cX12_sum 36 = .ok (.invokevirtual 282, 3) := by decide +kernel
theorem dX12_sum_39 : decode cX12_sum 39 = .ok (.aload_n 0, 1) := by decide +kernel
theorem dX12_sum_40 : decode cX12_sum 40 = .ok (.iconst 2, 1) := by decide +kernel
theorem dX12_sum_41 : decode cX12_sum 41 = .ok (.iload_n 1, 1) := by decide +kernel
theorem dX12_sum_42 : decode cX12_sum 42 = .ok (.invokevirtual 273, 3) := by decide +kernel
theorem dX12_sum_45 : decode cX12_sum 45 = .ok (.goto (-41), 3) := by decide +kernel
theorem dX12_sum_48 : decode cX12_sum 48 = .ok (.return_, 1) := by decide +kernel
set_option maxRecDepth 20000 in
theorem ggX12_product_X12_primary : GoodIn wsX12_product wsX12_primary := goodIn_r _ [137, 10, 138, 11, 1, 6, 7, 8, 5, 9, 17, 18, 19, 20, 21, 22, 27, 28, 29, 30, 31, 32, 33, 34, 35, 36, 37, 38, 39, 40, 41, 42, 43, 44, 45, 46, 47, 48, 49, 50, 51, 52, 53, 54, 55, 56, 57, 58, 59, 60, 61, 62, 63, 64, 65, 66, 67, 68, 69, 70, 71, 72, 73, 74, 75, 76, 77, 78, 79, 80, 81, 82, 83, 84, 85, 86, 87, 88, 89, 90, 91, 92, 93, 94, 95, 96, 97, 98, 99, 100, 101, 102, 103, 104, 105, 139, 140, 141, 12, 13, 14, 15, 16, 106, 107, 108, 109, 110, 111, 112, 113, 114, 115, 116, 117, 118, 119, 120, 23, 24, 25, 26, 121, 122, 123, 124, 125, 126, 127, 128, 129, 130, 131, 132, 133, 134, 135, 136, 0, 2, 3, 4, 142, 143, 144, 145, 146, 147, 148, 149, 150, 151, 152, 153, 154, 155, 156, 157, 158, 159, 160, 161, 162, 163, 164, 165, 166, 167, 168, 169, 170, 171, 172, 173, 174, 175, 176, 177, 178, 179, 180, 181, 182, 183, 184, 185, 186, 187, 188, 189, 190, 191, 192, 193, 194, 195, 196, 197, 198, 199, 200, 201, 202, 203, 204, 205, 206, 207, 208, 209, 210, 211] rfl (by decide +kernel)
set_option maxRecDepth 20000 in
theorem gX12_product_X12_primary : GoodIn wsX12_product (wsV RX12 285 RX12 yX12_primary wsX12_primary) := goodIn_app (goodIn_r _ [2, 3, 4, 5] rfl (by decide +kernel)) ggX12_product_X12_primary
set_option maxRecDepth 20000 in
theorem ggX12_product_X12_isSign : GoodIn wsX12_product wsX12_isSign := goodIn_r _ [9, 10, 11, 1, 146, 147, 148, 149, 150, 151, 152, 153, 154, 155, 156, 157, 158, 159, 160, 161, 162, 163, 164, 165, 166, 167, 168, 169, 170, 171, 172, 173, 174, 175, 176, 177, 178, 179, 180, 181, 182, 183, 184, 185, 186, 187, 188, 189, 190, 191, 192, 193, 194, 195, 196, 197, 198, 199, 200, 201, 202, 203, 204, 205, 206, 207, 208, 209, 210, 211] rfl (by decide +kernel)
set_option maxRecDepth 20000 in
theorem gX12_product_X12_isSign : GoodIn wsX12_product (wsV RX12 252 RX12 yX12_isSign wsX12_isSign) := goodIn_app (goodIn_r _ [6, 7, 8, 5] rfl (by decide +kernel)) ggX12_product_X12_isSign
set_option maxRecDepth 20000 in
theorem ggX12_product_X12_knot : GoodIn wsX12_product wsX12_knot := goodIn_r _ [15, 10, 16, 17, 18, 19, 5, 20, 21, 22, 146, 147, 148, 149, 150, 151, 152, 153, 154, 155, 156, 157, 158, 159, 160, 161, 162, 163, 164, 165, 166, 167, 168, 169, 170, 171, 172, 173, 174, 175, 176, 177, 178, 179, 180, 181, 182, 183, 184, 185, 186, 187, 188, 189, 190, 191, 192, 193, 194, 195, 196, 197, 198, 199, 200, 201, 202, 203, 204, 205, 206, 207, 208, 209, 210, 211] rfl (by decide +kernel)
set_option maxRecDepth 20000 in
theorem gX12_product_X12_knot : GoodIn wsX12_product (wsV RX12 270 RX12 yX12_knot wsX12_knot) := goodIn_app (goodIn_r _ [12, 13, 14, 5] rfl (by decide +kernel)) ggX12_product_X12_knot
set_option maxRecDepth 20000 in
theorem ggX12_product_X12_goOn : GoodIn wsX12_product wsX12_goOn := goodIn_r _ [26, 10, 27, 28, 29, 5, 30, 31, 21, 11, 1, 32, 33, 34, 35, 36, 37, 38, 39, 40, 41, 42, 43, 44, 45, 46, 47, 48, 49, 50, 51, 52, 53, 54, 55, 56, 57, 58, 59, 60, 61, 62, 63, 64, 65, 66, 67, 68, 69, 70, 71, 72, 73, 74, 75, 76, 77, 78, 79, 80, 81, 82, 83, 84, 85, 86, 87, 88, 89, 90, 91, 92, 93, 94, 95, 96, 97, 98, 99, 100, 101, 102, 103, 104, 105, 146, 147, 148, 149, 150, 151, 152, 153, 154, 155, 156, 157, 158, 159, 160, 161, 162, 163, 164, 165, 166, 167, 168, 169, 170, 171, 172, 173, 174, 175, 176, 177, 178, 179, 180, 181, 182, 183, 184, 185, 186, 187, 188, 189, 190, 191, 192, 193, 194, 195, 196, 197, 198, 199, 200, 201, 202, 203, 204, 205, 206, 207, 208, 209, 210, 211] rfl (by decide +kernel)
set_option maxRecDepth 20000 in
theorem gX12_product_X12_goOn : GoodIn wsX12_product (wsV RX12 222 RX12 yX12_goOn wsX12_goOn) := goodIn_app (goodIn_r _ [23, 24, 25, 5] rfl (by decide +kernel)) ggX12_product_X12_goOn
set_option maxRecDepth 20000 in
theorem ggX12_product_X12_puts : GoodIn wsX12_product wsX12_puts := goodIn_r _ [109, 10, 110, 111, 112, 113, 114, 5, 115, 116, 117, 118, 119, 120, 146, 147, 148, 149, 150, 151, 152, 153, 154, 155, 156, 157, 158, 159, 160, 161, 162, 163, 164, 165, 166, 167, 168, 169, 170, 171, 172, 173, 174, 175, 176, 177, 178, 179, 180, 181, 182, 183, 184, 185, 186, 187, 188, 189, 190, 191, 192, 193, 194, 195, 196, 197, 198, 199, 200, 201, 202, 203, 204, 205, 206, 207, 208, 209, 210, 211] rfl (by decide +kernel)
set_option maxRecDepth 20000 in
theorem gX12_product_X12_puts : GoodIn wsX12_product (wsV RX12 273 RX12 yX12_puts wsX12_puts) := goodIn_app (goodIn_r _ [106, 107, 108, 5] rfl (by decide +kernel)) ggX12_product_X12_puts
theorem dX12_product_0 : decode cX12_product 0 = .ok (.aload_n 0, 1) := by decide +kernel
theorem dX12_product_1 : decode cX12_product 1 = .ok (.invokevirtual 285, 3) := by decide +kernel
theorem dX12_product_4 : decode cX12_product 4 = .ok (.aload_n 0, 1) := by decide +kernel
theorem dX12_product_5 : decode cX12_product 5 = .ok (.bipush 42, 2) := by decide +kernel
theorem dX12_product_7 : decode cX12_product 7 = .ok (.invokevirtual 252, 3) := by decide +kernel
theorem dX12_product_10 : decode cX12_product 10 = .ok (.ifCond .ne 12, 3) := by decide +kernel
theorem dX12_product_13 : decode cX12_product 13 = .ok (.aload_n 0, 1) := by decide +kernel
theorem dX12_product_14 : decode cX12_product 14 = .ok (.bipush 47, 2) := by decide +kernel
theorem dX12_product_16 : decode cX12_product 16 = .ok (.invokevirtual 252, 3) := by decide +kernel
theorem dX12_product_19 : decode cX12_product 19 = .ok (.ifCond .eq 29, 3) := by decide +kernel
theorem dX12_product_22 : decode cX12_product 22 = .ok (.aload_n 0, 1) := by decide +kernel
theorem dX12_product_23 : decode cX12_product 23 = .ok (.getfield 174, 3) := by decide +kernel
theorem dX12_product_26 : decode cX12_product 26 = .ok (.istore_n 1, 1) := by decide +kernel
theorem dX12_product_27 : decode cX12_product 27 = .ok (.aload_n 0, 1) := by decide +kernel
theorem dX12_product_28 : decode cX12_product 28 = .ok (.invokevirtual 270, 3) := by decide +kernel
theorem dX12_product_31 : decode cX12_product 31 = .ok (.aload_n 0, 1) := by decide +kernel
theorem dX12_product_32 : decode cX12_product 32 = .ok (.invokevirtual 222, 3) := by decide +kernel
theorem dX12_product_35 : decode cX12_product 35 = .ok (.aload_n 0, 1) := by decide +kernel
theorem dX12_product_36 : decode cX12_product 36 = .ok (.invokevirtual 285, 3) := by decide +kernel
theorem dX12_product_39 : decode cX12_product 39 = .ok (.aload_n 0, 1) := by decide +kernel
theorem dX12_product_40 : decode cX12_product 40 = .ok (.iconst 2, 1) := by decide +kernel
theorem dX12_product_41 : decode cX12_product 41 = .ok (.iload_n 1, 1) := by decide +kernel
theorem dX12_product_42 : decode cX12_product 42 = .ok (.invokevirtual 273, 3) := by decide +kernel
theorem dX12_product_45 : decode cX12_product 45 = .ok (.goto (-41), 3) := by decide +kernel
theorem dX12_product_48 : decode cX12_product 48 = .ok (.return_, 1) := by decide +kernel
set_option maxRecDepth 20000 in
theorem ggX12_primary_X12_isSign : GoodIn wsX12_primary wsX12_isSign := goodIn_r _ [9, 1, 3, 4, 146, 147, 148, 149, 150, 151, 152, 153, 154, 155, 156, 157, 158, 159, 160, 161, 162, 163, 164, 165, 166, 167, 168, 169, 170, 171, 172, 173, 174, 175, 176, 177, 178, 179, 180, 181, 182, 183, 184, 185, 186, 187, 188, 189, 190, 191, 192, 193, 194, 195, 196, 197, 198, 199, 200, 201, 202, 203, 204, 205, 206, 207, 208, 209, 210, 211] rfl (by decide +kernel)
set_option maxRecDepth 20000 in
theorem gX12_primary_X12_isSign : GoodIn wsX12_primary (wsV RX12 252 RX12 yX12_isSign wsX12_isSign) := goodIn_app (goodIn_r _ [5, 6, 7, 8] rfl (by decide +kernel)) ggX12_primary_X12_isSign
set_option maxRecDepth 20000 in
theorem ggX12_primary_X12_wrong : GoodIn wsX12_primary wsX12_wrong := goodIn_r _ [13, 1, 14, 15, 146, 147, 148, 149, 150, 151, 152, 153, 154, 155, 156, 157, 158, 159, 160, 161, 162, 163, 164, 165, 166, 167, 168, 169, 170, 171, 172, 173, 174, 175, 176, 177, 178, 179, 180, 181, 182, 183, 184, 185, 186, 187, 188, 189, 190, 191, 192, 193, 194, 195, 196, 197, 198, 199, 200, 201, 202, 203, 204, 205, 206, 207, 208, 209, 210, 211] rfl (by decide +kernel)
set_option maxRecDepth 20000 in
theorem gX12_primary_X12_wrong : GoodIn wsX12_primary (wsV RX12 208 RX12 yX12_wrong wsX12_wrong) := goodIn_app (goodIn_r _ [10, 11, 12, 8] rfl (by decide +kernel)) ggX12_primary_X12_wrong
set_option maxRecDepth 20000 in
theorem ggX12_primary_X12_token : GoodIn wsX12_primary wsX12_token := goodIn_r _ [19, 20, 14, 3, 4, 21, 22, 23, 24, 8, 25, 26, 27, 28, 29, 30, 31, 32, 33, 34, 35, 36, 37, 38, 39, 40, 41, 42, 43, 44, 45, 46, 47, 48, 49, 50, 51, 52, 53, 54, 55, 56, 57, 58, 59, 60, 61, 62, 63, 64, 65, 66, 67, 68, 69, 70, 71, 72, 73, 74, 75, 76, 77, 78, 79, 80, 81, 82, 83, 84, 85, 86, 87, 88, 89, 90, 91, 92, 93, 94, 146, 147, 148, 149, 150, 151, 152, 153, 154, 155, 156, 157, 158, 159, 160, 161, 162, 163, 164, 165, 166, 167, 168, 169, 170, 171, 172, 173, 174, 175, 176, 177, 178, 179, 180, 181, 182, 183, 184, 185, 186, 187, 188, 189, 190, 191, 192, 193, 194, 195, 196, 197, 198, 199, 200, 201, 202, 203, 204, 205, 206, 207, 208, 209, 210, 211] rfl (by decide +kernel)
set_option maxRecDepth 20000 in
theorem gX12_primary_X12_token : GoodIn wsX12_primary (wsV RX12 205 RX12 yX12_token wsX12_token) := goodIn_app (goodIn_r _ [16, 17, 18, 8] rfl (by decide +kernel)) ggX12_primary_X12_token
set_option maxRecDepth 20000 in
theorem ggX12_primary_X12_expression : GoodIn wsX12_primary wsX12_expression := goodIn_r _ [130, 131, 132, 133, 8, 126, 127, 128, 129, 1, 3, 4, 98, 99, 100, 101, 102, 10, 11, 12, 13, 14, 15, 118, 119, 120, 121, 16, 17, 18, 19, 20, 21, 22, 23, 24, 25, 26, 27, 28, 29, 30, 31, 32, 33, 34, 35, 36, 37, 38, 39, 40, 41, 42, 43, 44, 45, 46, 47, 48, 49, 50, 51, 52, 53, 54, 55, 56, 57, 58, 59, 60, 61, 62, 63, 64, 65, 66, 67, 68, 69, 70, 71, 72, 73, 74, 75, 76, 77, 78, 79, 80, 81, 82, 83, 84, 85, 86, 87, 88, 89, 90, 91, 92, 93, 94, 103, 104, 105, 106, 107, 108, 109, 110, 111, 112, 113, 114, 115, 116, 117, 122, 123, 124, 125, 134, 135, 136, 137, 0, 2, 5, 6, 7, 9, 95, 96, 97, 138, 139, 140, 141, 142, 143, 144, 145, 146, 147, 148, 149, 150, 151, 152, 153, 154, 155, 156, 157, 158, 159, 160, 161, 162, 163, 164, 165, 166, 167, 168, 169, 170, 171, 172, 173, 174, 175, 176, 177, 178, 179, 180, 181, 182, 183, 184, 185, 186, 187, 188, 189, 190, 191, 192, 193, 194, 195, 196, 197, 198, 199, 200, 201, 202, 203, 204, 205, 206, 207, 208, 209, 210, 211] rfl (by decide +kernel)
set_option maxRecDepth 20000 in
theorem gX12_primary_X12_expression : GoodIn wsX12_primary (wsV RX12 258 RX12 yX12_expression wsX12_expression) := goodIn_app (goodIn_r _ [95, 96, 97, 8] rfl (by decide +kernel)) ggX12_primary_X12_expression
set_option maxRecDepth 20000 in
theorem ggX12_primary_X12_knot : GoodIn wsX12_primary wsX12_knot := goodIn_r _ [101, 1, 102, 10, 11, 12, 8, 13, 14, 15, 146, 147, 148, 149, 150, 151, 152, 153, 154, 155, 156, 157, 158, 159, 160, 161, 162, 163, 164, 165, 166, 167, 168, 169, 170, 171, 172, 173, 174, 175, 176, 177, 178, 179, 180, 181, 182, 183, 184, 185, 186, 187, 188, 189, 190, 191, 192, 193, 194, 195, 196, 197, 198, 199, 200, 201, 202, 203, 204, 205, 206, 207, 208, 209, 210, 211] rfl (by decide +kernel)
set_option maxRecDepth 20000 in
theorem gX12_primary_X12_knot : GoodIn wsX12_primary (wsV RX12 270 RX12 yX12_knot wsX12_knot) := goodIn_app (goodIn_r _ [98, 99, 100, 8] rfl (by decide +kernel)) ggX12_primary_X12_knot
set_option maxRecDepth 20000 in
theorem ggX12_primary_X12_puts : GoodIn wsX12_primary wsX12_puts := goodIn_r _ [106, 1, 107, 108, 109, 110, 111, 8, 112, 113, 114, 115, 116, 117, 146, 147, 148, 149, 150, 151, 152, 153, 154, 155, 156, 157, 158, 159, 160, 161, 162, 163, 164, 165, 166, 167, 168, 169, 170, 171, 172, 173, 174, 175, 176, 177, 178, 179, 180, 181, 182, 183, 184, 185, 186, 187, 188, 189, 190, 191, 192, 193, 194, 195, 196, 197, 198, 199, 200, 201, 202, 203, 204, 205, 206, 207, 208, 209, 210, 211] rfl (by decide +kernel)
set_option maxRecDepth 20000 in
theorem gX12_primary_X12_puts : GoodIn wsX12_primary (wsV RX12 273 RX12 yX12_puts wsX12_puts) := goodIn_app (goodIn_r _ [103, 104, 105, 8] rfl (by decide +kernel)) ggX12_primary_X12_puts
set_option maxRecDepth 20000 in
theorem ggX12_primary_X12_goOn : GoodIn wsX12_primary wsX12_goOn := goodIn_r _ [121, 1, 16, 17, 18, 8, 19, 20, 14, 3, 4, 21, 22, 23, 24, 25, 26, 27, 28, 29, 30, 31, 32, 33, 34, 35, 36, 37, 38, 39, 40, 41, 42, 43, 44, 45, 46, 47, 48, 49, 50, 51, 52, 53, 54, 55, 56, 57, 58, 59, 60, 61, 62, 63, 64, 65, 66, 67, 68, 69, 70, 71, 72, 73, 74, 75, 76, 77, 78, 79, 80, 81, 82, 83, 84, 85, 86, 87, 88, 89, 90, 91, 92, 93, 94, 146, 147, 148, 149, 150, 151, 152, 153, 154, 155, 156, 157, 158, 159, 160, 161, 162, 163, 164, 165, 166, 167, 168, 169, 170, 171, 172, 173, 174, 175, 176, 177, 178, 179, 180, 181, 182, 183, 184, 185, 186, 187, 188, 189, 190, 191, 192, 193, 194, 195, 196, 197, 198, 199, 200, 201, 202, 203, 204, 205, 206, 207, 208, 209, 210, 211] rfl (by decide +kernel)
set_option maxRecDepth 20000 in
theorem gX12_primary_X12_goOn : GoodIn wsX12_primary (wsV RX12 222 RX12 yX12_goOn wsX12_goOn) := goodIn_app (goodIn_r _ [118, 119, 120, 8] rfl (by decide +kernel)) ggX12_primary_X12_goOn
theorem dX12_primary_0 : decode cX12_primary 0 = .ok (.aload_n 0, 1) := by decide +kernel
theorem dX12_primary_1 : decode cX12_primary 1 = .ok (.getfield 199, 3) := by decide +kernel
theorem dX12_primary_4 : decode cX12_primary 4 = .ok (.ifCond .eq 4, 3) := by decide +kernel
theorem dX12_primary_7 : decode cX12_primary 7 = .ok (.return_, 1) := by decide +kernel
theorem dX12_primary_8 : decode cX12_primary 8 = .ok (.aload_n 0, 1) := by decide +kernel
theorem dX12_primary_9 : decode cX12_primary 9 = .ok (.bipush 40, 2) := by decide +kernel
theorem dX12_primary_11 : decode cX12_primary 11 = .ok (.invokevirtual 252, 3) := by decide +kernel
theorem dX12_primary_14 : decode cX12_primary 14 = .ok (.ifCond .eq 87, 3) := by decide +kernel
theorem dX12_primary_17 : decode cX12_primary 17 = .ok (.aload_n 0, 1) := by decide +kernel
theorem dX12_primary_18 : decode cX12_primary 18 = .ok (.getfield 288, 3) := by decide +kernel
theorem dX12_primary_21 : decode cX12_primary 21 = .ok (.bipush 8, 2) := by decide +kernel
theorem dX12_primary_23 : decode cX12_primary 23 = .ok (.if_icmp .ne 8, 3) := by decide +kernel
theorem dX12_primary_26 : decode cX12_primary 26 = .ok (.aload_n 0, 1) := by decide +kernel
theorem dX12_primary_27 : decode cX12_primary 27 = .ok (.iconst 2, 1) := by decide +kernel
theorem dX12_primary_28 : decode cX12_primary 28 = .ok (.invokevirtual 208, 3) := by decide +kernel
theorem dX12_primary_31 : decode cX12_primary 31 = .ok (.aload_n 0, 1) := by decide +kernel
theorem dX12_primary_32 : decode cX12_primary 32 = .ok (.getfield 199, 3) := by decide +kernel
theorem dX12_primary_35 : decode cX12_primary 35 = .ok (.ifCond .eq 4, 3) := by decide +kernel
theorem dX12_primary_38 : decode cX12_primary 38 = .ok (.return_, 1) := by decide +kernel
theorem dX12_primary_39 : decode cX12_primary 39 = .ok (.aload_n 0, 1) := by decide +kernel
theorem dX12_primary_40 : decode cX12_primary 40 = .ok (.dup, 1) := by decide +kernel
theorem dX12_primary_41 : decode cX12_primary 41 = .ok (.getfield 288, 3) := by decide +kernel
theorem dX12_primary_44 : decode cX12_primary 44 = .ok (.iconst 1, 1) := by decide +kernel
theorem dX12_primary_45 : decode cX12_primary 45 = .ok (.iadd, 1) := by decide +kernel
theorem dX12_primary_46 : decode cX12_primary 46 = .ok (.putfield 288, 3) := by decide +kernel
theorem dX12_primary_49 : decode cX12_primary 49 = .ok (.aload_n 0, 1) := by decide +kernel
theorem dX12_primary_50 : decode cX12_primary 50 = .ok (.invokevirtual 205, 3) := by decide +kernel
theorem dX12_primary_53 : decode cX12_primary 53 = .ok (.aload_n 0, 1) := by decide +kernel
theorem dX12_primary_54 : decode cX12_primary 54 = .ok (.invokevirtual 258, 3) := by decide +kernel
theorem dX12_primary_57 : decode cX12_primary 57 = .ok (.aload_n 0, 1) := by decide +kernel
theorem dX12_primary_58 : decode cX12_primary 58 = .ok (.getfield 199, 3) := by decide +kernel
theorem dX12_primary_61 : decode cX12_primary 61 = .ok (.ifCond .ne 17, 3) := by decide +kernel
theorem dX12_primary_64 : decode cX12_primary 64 = .ok (.aload_n 0, 1) := by decide +kernel
theorem dX12_primary_65 : decode cX12_primary 65 = .ok (.bipush 41, 2) := by decide +kernel
theorem dX12_primary_67 : decode cX12_primary 67 = .ok (.invokevirtual 252, 3) := by decide +kernel
theorem dX12_primary_70 : decode cX12_primary 70 = .ok (.ifCond .ne 8, 3) := by decide +kernel
theorem dX12_primary_73 : decode cX12_primary 73 = .ok (.aload_n 0, 1) := by decide +kernel
theorem dX12_primary_74 : decode cX12_primary 74 = .ok (.iconst 1, 1) := by decide +kernel
theorem dX12_primary_75 : decode cX12_primary 75 = .ok (.invokevirtual 208, 3) := by decide +kernel
theorem dX12_primary_78 : decode cX12_primary 78 = .ok (.aload_n 0, 1) := by decide +kernel
theorem dX12_primary_79 : decode cX12_primary 79 = .ok (.getfield 199, 3) := by decide +kernel
theorem dX12_primary_82 : decode cX12_primary 82 = .ok (.ifCond .eq 4, 3) := by decide +kernel
theorem dX12_primary_85 : decode cX12_primary 85 = .ok (.return_, 1) := by decide +kernel
theorem dX12_primary_86 : decode cX12_primary 86 = .ok (.aload_n 0, 1) := by decide +kernel
theorem dX12_primary_87 : decode cX12_primary 87 = .ok (.dup, 1) := by decide +kernel
theorem dX12_primary_88 : decode cX12_primary 88 = .ok (.getfield 288, 3) := by decide +kernel
theorem dX12_primary_91 : decode cX12_primary 91 = .ok (.iconst 1, 1) := by decide +kernel
theorem dX12_primary_92 : decode cX12_primary 92 = .ok (.isub, 1) := by decide +kernel
theorem dX12_primary_93 : decode cX12_primary 93 = .ok (.putfield 288, 3) := by decide +kernel
theorem dX12_primary_96 : decode cX12_primary 96 = .ok (.aload_n 0, 1) := by decide +kernel
theorem dX12_primary_97 : decode cX12_primary 97 = .ok (.invokevirtual 205, 3) := by decide +kernel
theorem dX12_primary_100 : decode cX12_primary 100 = .ok (.return_, 1) := by decide +kernel
theorem dX12_primary_101 : decode cX12_primary 101 = .ok (.aload_n 0, 1) := by decide +kernel
theorem dX12_primary_102 : decode cX12_primary 102 = .ok (.getfield 164, 3) := by decide +kernel
theorem dX12_primary_105 : decode cX12_primary 105 = .ok (.iconst 2, 1) := by decide +kernel
theorem dX12_primary_106 : decode cX12_primary 106 = .ok (.if_icmp .ne 7, 3) := by decide +kernel
theorem dX12_primary_109 : decode cX12_primary 109 = .ok (.iconst 1, 1) := by decide +kernel
theorem dX12_primary_110 : decode cX12_primary 110 = .ok (.goto 4, 3) := by decide +kernel
theorem dX12_primary_113 : decode cX12_primary 113 = .ok (.iconst 0, 1) := by decide +kernel
theorem dX12_primary_114 : decode cX12_primary 114 = .ok (.istore_n 1, 1) := by decide +kernel
theorem dX12_primary_115 : decode cX12_primary 115 = .ok (.iload_n 1, 1) := by decide +kernel
theorem dX12_primary_116 : decode cX12_primary 116 = .ok (.ifCond .eq 21, 3) := by decide +kernel
theorem dX12_primary_119 : decode cX12_primary 119 = .ok (.aload_n 0, 1) := by decide +kernel
theorem dX12_primary_120 : decode cX12_primary 120 = .ok (.getfield 174, 3) := by decide +kernel
theorem dX12_primary_123 : decode cX12_primary 123 = .ok (.sipush 9999, 3) := by decide +kernel
theorem dX12_primary_126 : decode cX12_primary 126 = .ok (.if_icmp .le 11, 3) := by decide +kernel
theorem dX12_primary_129 : decode cX12_primary 129 = .ok (.aload_n 0, 1) := by decide +kernel
theorem dX12_primary_130 : decode cX12_primary 130 = .ok (.iconst 2, 1) := by decide +kernel
theorem dX12_primary_131 : decode cX12_primary 131 = .ok (.invokevirtual 208, 3) := by decide +kernel
theorem dX12_primary_134 : decode cX12_primary 134 = .ok (.goto 28, 3) := by decide +kernel
theorem dX12_primary_137 : decode cX12_primary 137 = .ok (.iload_n 1, 1) := by decide +kernel
theorem dX12_primary_138 : decode cX12_primary 138 = .ok (.ifCond .ne 24, 3) := by decide +kernel
theorem dX12_primary_141 : decode cX12_primary 141 = .ok (.aload_n 0, 1) := by decide +kernel
theorem dX12_primary_142 : decode cX12_primary 142 = .ok (.getfield 164, 3) := by decide +kernel
theorem dX12_primary_145 : decode cX12_primary 145 = .ok (.ifCond .ne 12, 3) := by decide +kernel
theorem dX12_primary_148 : decode cX12_primary 148 = .ok (.aload_n 0, 1) := by decide +kernel
theorem dX12_primary_149 : decode cX12_primary 149 = .ok (.getfield 174, 3) := by decide +kernel
theorem dX12_primary_152 : decode cX12_primary 152 = .ok (.bipush 15, 2) := by decide +kernel
theorem dX12_primary_154 : decode cX12_primary 154 = .ok (.if_icmp .ge 8, 3) := by decide +kernel
theorem dX12_primary_157 : decode cX12_primary 157 = .ok (.aload_n 0, 1) := by decide +kernel
theorem dX12_primary_158 : decode cX12_primary 158 = .ok (.iconst 1, 1) := by decide +kernel
theorem dX12_primary_159 : decode cX12_primary 159 = .ok (.invokevirtual 208, 3) := by decide +kernel
theorem dX12_primary_162 : decode cX12_primary 162 = .ok (.aload_n 0, 1) := by decide +kernel
theorem dX12_primary_163 : decode cX12_primary 163 = .ok (.invokevirtual 270, 3) := by decide +kernel
theorem dX12_primary_166 : decode cX12_primary 166 = .ok (.aload_n 0, 1) := by decide +kernel
theorem dX12_primary_167 : decode cX12_primary 167 = .ok (.iload_n 1, 1) := by decide +kernel
theorem dX12_primary_168 : decode cX12_primary 168 = .ok (.ifCond .eq 7, 3) := by decide +kernel
theorem dX12_primary_171 : decode cX12_primary 171 = .ok (.iconst 0, 1) := by decide +kernel
theorem dX12_primary_172 : decode cX12_primary 172 = .ok (.goto 4, 3) := by decide +kernel
theorem dX12_primary_175 : decode cX12_primary 175 = .ok (.iconst 1, 1) := by decide +kernel
theorem dX12_primary_176 : decode cX12_primary 176 = .ok (.iload_n 1, 1) := by decide +kernel
theorem dX12_primary_177 : decode cX12_primary 177 = .ok (.ifCond .eq 10, 3) := by decide +kernel
theorem dX12_primary_180 : decode cX12_primary 180 = .ok (.aload_n 0, 1) := by decide +kernel
theorem dX12_primary_181 : decode cX12_primary 181 = .ok (.getfield 174, 3) := by decide +kernel
theorem dX12_primary_184 : decode cX12_primary 184 = .ok (.goto 10, 3) := by decide +kernel
theorem dX12_primary_187 : decode cX12_primary 187 = .ok (.aload_n 0, 1) := by decide +kernel
theorem dX12_primary_188 : decode cX12_primary 188 = .ok (.getfield 174, 3) := by decide +kernel
theorem dX12_primary_191 : decode cX12_primary 191 = .ok (.bipush 15, 2) := by decide +kernel
theorem dX12_primary_193 : decode cX12_primary 193 = .ok (.isub, 1) := by decide +kernel
theorem dX12_primary_194 : decode cX12_primary 194 = .ok (.invokevirtual 273, 3) := by decide +kernel
theorem dX12_primary_197 : decode cX12_primary 197 = .ok (.aload_n 0, 1) := by decide +kernel
theorem dX12_primary_198 : decode cX12_primary 198 = .ok (.invokevirtual 222, 3) := by decide +kernel
theorem dX12_primary_201 : decode cX12_primary 201 = .ok (.return_, 1) := by decide +kernel
theorem dX12_half_0 : decode cX12_half 0 = .ok (.aload_n 0, 1) := by decide +kernel
theorem dX12_half_1 : decode cX12_half 1 = .ok (.arraylength, 1) := by decide +kernel
theorem dX12_half_2 : decode cX12_half 2 = .ok (.iconst 2, 1) := by decide +kernel
theorem dX12_half_3 : decode cX12_half 3 = .ok (.idiv, 1) := by decide +kernel
theorem dX12_half_4 : decode cX12_half 4 = .ok (.istore_n 1, 1) := by decide +kernel
theorem dX12_half_5 : decode cX12_half 5 = .ok (.iconst 0, 1) := by decide +kernel
theorem dX12_half_6 : decode cX12_half 6 = .ok (.istore_n 2, 1) := by decide +kernel
theorem dX12_half_7 : decode cX12_half 7 = .ok (.iload_n 2, 1) := by decide +kernel
theorem dX12_half_8 : decode cX12_half 8 = .ok (.iload_n 1, 1) := by decide +kernel
theorem dX12_half_9 : decode cX12_half 9 = .ok (.if_icmp .ge 17, 3) := by decide +kernel
theorem dX12_half_12 : decode cX12_half 12 = .ok (.aload_n 0, 1) := by decide +kernel
theorem dX12_half_13 : decode cX12_half 13 = .ok (.iload_n 2, 1) := by decide +kernel
theorem dX12_half_14 : decode cX12_half 14 = .ok (.aload_n 0, 1) := by decide +kernel
theorem dX12_half_15 : decode cX12_half 15 = .ok (.iload_n 1, 1) := by decide +kernel
theorem dX12_half_16 : decode cX12_half 16 = .ok (.iload_n 2, 1) := by decide +kernel
theorem dX12_half_17 : decode cX12_half 17 = .ok (.iadd, 1) := by decide +kernel
theorem dX12_half_18 : decode cX12_half 18 = .ok (.iaload, 1) := by decide +kernel
theorem dX12_half_19 : decode cX12_half 19 = .ok (.iastore, 1) := by decide +kernel
theorem dX12_half_20 : decode cX12_half 20 = .ok (.iinc 2 1, 3) := by decide +kernel
theorem dX12_half_23 : decode cX12_half 23 = .ok (.goto (-16), 3) := by decide +kernel
theorem dX12_half_26 : decode cX12_half 26 = .ok (.return_, 1) := by decide +kernel
set_option maxRecDepth 20000 in
theorem ggX12_text_X12_reads : GoodIn wsX12_text wsX12_reads := goodIn_r _ [35, 16, 221, 222, 223, 224, 225, 226, 227, 228, 229, 230, 231, 232, 233, 234, 235, 236, 237, 238, 239, 240, 241, 242, 243, 244, 245, 246, 247, 248, 249, 250, 251, 252, 253, 254, 255, 256, 257, 258, 259, 260, 261, 262, 263, 264, 265, 266, 267, 268, 269, 270, 271, 272, 273, 274, 275, 276, 277, 278, 279, 280, 281, 282, 283, 284, 285, 286] rfl (by decide +kernel)
set_option maxRecDepth 20000 in
theorem gX12_text_X12_reads : GoodIn wsX12_text (wsV RX12 235 RX12 yX12_reads wsX12_reads) := goodIn_app (goodIn_r _ [31, 32, 33, 34] rfl (by decide +kernel)) ggX12_text_X12_reads
set_option maxRecDepth 20000 in
theorem ggX12_text_X12_token : GoodIn wsX12_text wsX12_token := goodIn_r _ [39, 4, 40, 13, 41, 42, 43, 44, 45, 34, 46, 3, 47, 48, 49, 50, 51, 52, 53, 54, 55, 56, 57, 58, 59, 60, 61, 62, 63, 64, 65, 66, 67, 68, 69, 70, 71, 72, 73, 74, 75, 76, 77, 78, 79, 80, 81, 82, 83, 84, 85, 86, 87, 88, 89, 90, 91, 92, 93, 94, 95, 96, 97, 98, 99, 100, 101, 102, 103, 104, 105, 106, 107, 108, 109, 110, 111, 112, 113, 114, 221, 222, 223, 224, 225, 226, 227, 228, 229, 230, 231, 232, 233, 234, 235, 236, 237, 238, 239, 240, 241, 242, 243, 244, 245, 246, 247, 248, 249, 250, 251, 252, 253, 254, 255, 256, 257, 258, 259, 260, 261, 262, 263, 264, 265, 266, 267, 268, 269, 270, 271, 272, 273, 274, 275, 276, 277, 278, 279, 280, 281, 282, 283, 284, 285, 286] rfl (by decide +kernel)
set_option maxRecDepth 20000 in
theorem gX12_text_X12_token : GoodIn wsX12_text (wsV RX12 205 RX12 yX12_token wsX12_token) := goodIn_app (goodIn_r _ [36, 37, 38, 34] rfl (by decide +kernel)) ggX12_text_X12_token
set_option maxRecDepth 20000 in
theorem ggX12_text_X12_line : GoodIn wsX12_text wsX12_line := goodIn_r _ [118, 13, 41, 9, 5, 17, 21, 22, 23, 24, 42, 10, 119, 120, 121, 34, 122, 40, 6, 123, 124, 125, 126, 127, 128, 129, 130, 16, 36, 37, 38, 39, 4, 43, 44, 45, 46, 3, 47, 48, 49, 50, 51, 52, 53, 54, 55, 56, 57, 58, 59, 60, 61, 62, 63, 64, 65, 66, 67, 68, 69, 70, 71, 72, 73, 74, 75, 76, 77, 78, 79, 80, 81, 82, 83, 84, 85, 86, 87, 88, 89, 90, 91, 92, 93, 94, 95, 96, 97, 98, 99, 100, 101, 102, 103, 104, 105, 106, 107, 108, 109, 110, 111, 112, 113, 114, 131, 132, 133, 134, 135, 136, 137, 31, 32, 33, 35, 138, 139, 140, 141, 18, 19, 20, 142, 143, 144, 145, 146, 147, 148, 149, 150, 151, 152, 153, 154, 155, 156, 157, 158, 159, 160, 161, 7, 8, 162, 163, 164, 165, 166, 167, 168, 169, 170, 171, 172, 173, 174, 175, 176, 12, 177, 178, 179, 180, 25, 26, 181, 182, 183, 184, 185, 186, 187, 188, 189, 11, 190, 191, 192, 193, 194, 195, 196, 197, 198, 199, 200, 201, 221, 222, 223, 224, 225, 226, 227, 228, 229, 230, 231, 232, 233, 234, 235, 236, 237, 238, 239, 240, 241, 242, 243, 244, 245, 246, 247, 248, 249, 250, 251, 252, 253, 254, 255, 256, 257, 258, 259, 260, 261, 262, 263, 264, 265, 266, 267, 268, 269, 270, 271, 272, 273, 274, 275, 276, 277, 278, 279, 280, 281, 282, 283, 284, 285, 286] rfl (by decide +kernel)
set_option maxRecDepth 20000 in
theorem gX12_text_X12_line : GoodIn wsX12_text (wsV RX12 291 RX12 yX12_line wsX12_line) := goodIn_app (goodIn_r _ [115, 116, 117, 34] rfl (by decide +kernel)) ggX12_text_X12_line
set_option maxRecDepth 20000 in
theorem ggX12_text_X12_half : GoodIn wsX12_text wsX12_half := goodIn_r _ [204] rfl (by decide +kernel)
set_option maxRecDepth 20000 in
theorem gX12_text_X12_half : GoodIn wsX12_text (va_wsS RX12 297 yX12_half wsX12_half) := goodIn_app (goodIn_of _ (by decide +kernel)) ggX12_text_X12_half
set_option maxRecDepth 20000 in
theorem ggX12_text_X12_starts : GoodIn wsX12_text wsX12_starts := goodIn_r _ [208, 209, 210, 16, 211, 212, 213, 214, 215, 216, 217, 218, 219, 220, 221, 222, 223, 224, 225, 226, 227, 228, 229, 230, 231, 232, 233, 234, 235, 236, 237, 238, 239, 240, 241, 242, 243, 244, 245, 246, 247, 248, 249, 250, 251, 252, 253, 254, 255, 256, 257, 258, 259, 260, 261, 262, 263, 264, 265, 266, 267, 268, 269, 270, 271, 272, 273, 274, 275, 276, 277, 278, 279, 280, 281, 282, 283, 284, 285, 286] rfl (by decide +kernel)
set_option maxRecDepth 20000 in
theorem gX12_text_X12_starts : GoodIn wsX12_text (wsV RX12 311 RX12 yX12_starts wsX12_starts) := goodIn_app (goodIn_r _ [205, 206, 207, 34] rfl (by decide +kernel)) ggX12_text_X12_starts
theorem dX12_text_0 : decode cX12_text 0 = .ok (.aload_n 0, 1) := by decide +kernel
theorem dX12_text_1 : decode cX12_text 1 = .ok (.iconst 0, 1) := by decide +kernel
theorem dX12_text_2 : decode cX12_text 2 = .ok (.putfield 145, 3) := by decide +kernel
theorem dX12_text_5 : decode cX12_text 5 = .ok (.iload_n 1, 1) := by decide +kernel
theorem dX12_text_6 : decode cX12_text 6 = .ok (.ifCond .lt 11, 3) := by decide +kernel
theorem dX12_text_9 : decode cX12_text 9 = .ok (.iload_n 1, 1) := by decide +kernel
theorem dX12_text_10 : decode cX12_text 10 = .ok (.aload_n 0, 1) := by decide +kernel
theorem dX12_text_11 : decode cX12_text 11 = .ok (.getfield 148, 3) := by decide +kernel
theorem dX12_text_14 : decode cX12_text 14 = .ok (.if_icmp .le 6, 3) := by decide +kernel
theorem dX12_text_17 : decode cX12_text 17 = .ok (.bipush (-2), 2) := by decide +kernel
theorem dX12_text_19 : decode cX12_text 19 = .ok (.ireturn, 1) := by decide +kernel
theorem dX12_text_20 : decode cX12_text 20 = .ok (.aload_n 0, 1) := by decide +kernel
theorem dX12_text_21 : decode cX12_text 21 = .ok (.iload_n 1, 1) := by decide +kernel
theorem dX12_text_22 : decode cX12_text 22 = .ok (.putfield 154, 3) := by decide +kernel
theorem dX12_text_25 : decode cX12_text 25 = .ok (.aload_n 0, 1) := by decide +kernel
theorem dX12_text_26 : decode cX12_text 26 = .ok (.iconst 0, 1) := by decide +kernel
theorem dX12_text_27 : decode cX12_text 27 = .ok (.putfield 148, 3) := by decide +kernel
theorem dX12_text_30 : decode cX12_text 30 = .ok (.aload_n 0, 1) := by decide +kernel
theorem dX12_text_31 : decode cX12_text 31 = .ok (.iconst 0, 1) := by decide +kernel
theorem dX12_text_32 : decode cX12_text 32 = .ok (.putfield 151, 3) := by decide +kernel
theorem dX12_text_35 : decode cX12_text 35 = .ok (.aload_n 0, 1) := by decide +kernel
theorem dX12_text_36 : decode cX12_text 36 = .ok (.iconst 0, 1) := by decide +kernel
theorem dX12_text_37 : decode cX12_text 37 = .ok (.putfield 199, 3) := by decide +kernel
theorem dX12_text_40 : decode cX12_text 40 = .ok (.aload_n 0, 1) := by decide +kernel
theorem dX12_text_41 : decode cX12_text 41 = .ok (.iconst (-1), 1) := by decide +kernel
theorem dX12_text_42 : decode cX12_text 42 = .ok (.putfield 202, 3) := by decide +kernel
theorem dX12_text_45 : decode cX12_text 45 = .ok (.iconst 0, 1) := by decide +kernel
theorem dX12_text_46 : decode cX12_text 46 = .ok (.istore_n 2, 1) := by decide +kernel
theorem dX12_text_47 : decode cX12_text 47 = .ok (.iload_n 2, 1) := by decide +kernel
theorem dX12_text_48 : decode cX12_text 48 = .ok (.bipush 9, 2) := by decide +kernel
theorem dX12_text_50 : decode cX12_text 50 = .ok (.if_icmp .ge 36, 3) := by decide +kernel
theorem dX12_text_53 : decode cX12_text 53 = .ok (.aload_n 0, 1) := by decide +kernel
theorem dX12_text_54 : decode cX12_text 54 = .ok (.iload_n 2, 1) := by decide +kernel
theorem dX12_text_55 : decode cX12_text 55 = .ok (.iload_n 2, 1) := by decide +kernel
theorem dX12_text_56 : decode cX12_text 56 = .ok (.iconst 5, 1) := by decide +kernel
theorem dX12_text_57 : decode cX12_text 57 = .ok (.if_icmp .ne 8, 3) := by decide +kernel
theorem dX12_text_60 : decode cX12_text 60 = .ok (.bipush 9, 2) := by decide +kernel
theorem dX12_text_62 : decode cX12_text 62 = .ok (.goto 15, 3) := by decide +kernel
theorem dX12_text_65 : decode cX12_text 65 = .ok (.iload_n 2, 1) := by decide +kernel
theorem dX12_text_66 : decode cX12_text 66 = .ok (.bipush 6, 2) := by decide +kernel
theorem dX12_text_68 : decode cX12_text 68 = .ok (.if_icmp .ne 8, 3) := by decide +kernel
theorem dX12_text_71 : decode cX12_text 71 = .ok (.bipush 50, 2) := by decide +kernel
theorem dX12_text_73 : decode cX12_text 73 = .ok (.goto 4, 3) := by decide +kernel
theorem dX12_text_76 : decode cX12_text 76 = .ok (.iconst 0, 1) := by decide +kernel
theorem dX12_text_77 : decode cX12_text 77 = .ok (.invokevirtual 235, 3) := by decide +kernel
theorem dX12_text_80 : decode cX12_text 80 = .ok (.iinc 2 1, 3) := by decide +kernel
theorem dX12_text_83 : decode cX12_text 83 = .ok (.goto (-36), 3) := by decide +kernel
theorem dX12_text_86 : decode cX12_text 86 = .ok (.iconst 3, 1) := by decide +kernel
theorem dX12_text_87 : decode cX12_text 87 = .ok (.istore_n 2, 1) := by decide +kernel
theorem dX12_text_88 : decode cX12_text 88 = .ok (.iload_n 2, 1) := by decide +kernel
theorem dX12_text_89 : decode cX12_text 89 = .ok (.bipush 6, 2) := by decide +kernel
theorem dX12_text_91 : decode cX12_text 91 = .ok (.if_icmp .ge 23, 3) := by decide +kernel
theorem dX12_text_94 : decode cX12_text 94 = .ok (.aload_n 0, 1) := by decide +kernel
theorem dX12_text_95 : decode cX12_text 95 = .ok (.getfield 40, 3) := by decide +kernel
theorem dX12_text_98 : decode cX12_text 98 = .ok (.iload_n 2, 1) := by decide +kernel
theorem dX12_text_99 : decode cX12_text 99 = .ok (.iconst 0, 1) := by decide +kernel
theorem dX12_text_100 : decode cX12_text 100 = .ok (.iastore, 1) := by decide +kernel
theorem dX12_text_101 : decode cX12_text 101 = .ok (.aload_n 0, 1) := by decide +kernel
theorem dX12_text_102 : decode cX12_text 102 = .ok (.getfield 43, 3) := by decide +kernel
theorem dX12_text_105 : decode cX12_text 105 = .ok (.iload_n 2, 1) := by decide +kernel
theorem dX12_text_106 : decode cX12_text 106 = .ok (.iconst 0, 1) := by decide +kernel
theorem dX12_text_107 : decode cX12_text 107 = .ok (.iastore, 1) := by decide +kernel
theorem dX12_text_108 : decode cX12_text 108 = .ok (.iinc 2 1, 3) := by decide +kernel
theorem dX12_text_111 : decode cX12_text 111 = .ok (.goto (-23), 3) := by decide +kernel
theorem dX12_text_114 : decode cX12_text 114 = .ok (.aload_n 0, 1) := by decide +kernel
theorem dX12_text_115 : decode cX12_text 115 = .ok (.iconst 0, 1) := by decide +kernel
theorem dX12_text_116 : decode cX12_text 116 = .ok (.putfield 228, 3) := by decide +kernel
theorem dX12_text_119 : decode cX12_text 119 = .ok (.aload_n 0, 1) := by decide +kernel
theorem dX12_text_120 : decode cX12_text 120 = .ok (.iconst 0, 1) := by decide +kernel
theorem dX12_text_121 : decode cX12_text 121 = .ok (.putfield 255, 3) := by decide +kernel
theorem dX12_text_124 : decode cX12_text 124 = .ok (.aload_n 0, 1) := by decide +kernel
theorem dX12_text_125 : decode cX12_text 125 = .ok (.iconst 0, 1) := by decide +kernel
theorem dX12_text_126 : decode cX12_text 126 = .ok (.putfield 288, 3) := by decide +kernel
theorem dX12_text_129 : decode cX12_text 129 = .ok (.aload_n 0, 1) := by decide +kernel
theorem dX12_text_130 : decode cX12_text 130 = .ok (.iconst 0, 1) := by decide +kernel
theorem dX12_text_131 : decode cX12_text 131 = .ok (.putfield 261, 3) := by decide +kernel
theorem dX12_text_134 : decode cX12_text 134 = .ok (.aload_n 0, 1) := by decide +kernel
theorem dX12_text_135 : decode cX12_text 135 = .ok (.invokevirtual 205, 3) := by decide +kernel
theorem dX12_text_138 : decode cX12_text 138 = .ok (.aload_n 0, 1) := by decide +kernel
theorem dX12_text_139 : decode cX12_text 139 = .ok (.getfield 199, 3) := by decide +kernel
theorem dX12_text_142 : decode cX12_text 142 = .ok (.ifCond .ne 18, 3) := by decide +kernel
theorem dX12_text_145 : decode cX12_text 145 = .ok (.aload_n 0, 1) := by decide +kernel
theorem dX12_text_146 : decode cX12_text 146 = .ok (.getfield 164, 3) := by decide +kernel
theorem dX12_text_149 : decode cX12_text 149 = .ok (.iconst 4, 1) := by decide +kernel
theorem dX12_text_150 : decode cX12_text 150 = .ok (.if_icmp .eq 10, 3) := by decide +kernel
theorem dX12_text_153 : decode cX12_text 153 = .ok (.aload_n 0, 1) := by decide +kernel
theorem dX12_text_154 : decode cX12_text 154 = .ok (.invokevirtual 291, 3) := by decide +kernel
theorem dX12_text_157 : decode cX12_text 157 = .ok (.goto (-19), 3) := by decide +kernel
theorem dX12_text_160 : decode cX12_text 160 = .ok (.aload_n 0, 1) := by decide +kernel
theorem dX12_text_161 : decode cX12_text 161 = .ok (.aload_n 0, 1) := by decide +kernel
theorem dX12_text_162 : decode cX12_text 162 = .ok (.getfield 199, 3) := by decide +kernel
theorem dX12_text_165 : decode cX12_text 165 = .ok (.putfield 294, 3) := by decide +kernel
theorem dX12_text_168 : decode cX12_text 168 = .ok (.aload_n 0, 1) := by decide +kernel
theorem dX12_text_169 : decode cX12_text 169 = .ok (.aload_n 0, 1) := by decide +kernel
theorem dX12_text_170 : decode cX12_text 170 = .ok (.getfield 202, 3) := by decide +kernel
theorem dX12_text_173 : decode cX12_text 173 = .ok (.putfield 52, 3) := by decide +kernel
theorem dX12_text_176 : decode cX12_text 176 = .ok (.aload_n 0, 1) := by decide +kernel
theorem dX12_text_177 : decode cX12_text 177 = .ok (.getfield 199, 3) := by decide +kernel
theorem dX12_text_180 : decode cX12_text 180 = .ok (.ifCond .eq 5, 3) := by decide +kernel
theorem dX12_text_183 : decode cX12_text 183 = .ok (.iconst (-1), 1) := by decide +kernel
theorem dX12_text_184 : decode cX12_text 184 = .ok (.ireturn, 1) := by decide +kernel
theorem dX12_text_185 : decode cX12_text 185 = .ok (.aload_n 0, 1) := by decide +kernel
theorem dX12_text_186 : decode cX12_text 186 = .ok (.getfield 13, 3) := by decide +kernel
theorem dX12_text_189 : decode cX12_text 189 = .ok (.invokestatic 297, 3) := by decide +kernel
theorem dX12_text_192 : decode cX12_text 192 = .ok (.aload_n 0, 1) := by decide +kernel
theorem dX12_text_193 : decode cX12_text 193 = .ok (.getfield 16, 3) := by decide +kernel
theorem dX12_text_196 : decode cX12_text 196 = .ok (.invokestatic 297, 3) := by decide +kernel
theorem dX12_text_199 : decode cX12_text 199 = .ok (.aload_n 0, 1) := by decide +kernel
theorem dX12_text_200 : decode cX12_text 200 = .ok (.getfield 19, 3) := by decide +kernel
theorem dX12_text_203 : decode cX12_text 203 = .ok (.invokestatic 297, 3) := by decide +kernel
theorem dX12_text_206 : decode cX12_text 206 = .ok (.aload_n 0, 1) := by decide +kernel
theorem dX12_text_207 : decode cX12_text 207 = .ok (.getfield 22, 3) := by decide +kernel
theorem dX12_text_210 : decode cX12_text 210 = .ok (.invokestatic 297, 3) := by decide +kernel
theorem dX12_text_213 : decode cX12_text 213 = .ok (.aload_n 0, 1) := by decide +kernel
theorem dX12_text_214 : decode cX12_text 214 = .ok (.getfield 25, 3) := by decide +kernel
theorem dX12_text_217 : decode cX12_text 217 = .ok (.invokestatic 297, 3) := by decide +kernel
theorem dX12_text_220 : decode cX12_text 220 = .ok (.aload_n 0, 1) := by decide +kernel
theorem dX12_text_221 : decode cX12_text 221 = .ok (.getfield 28, 3) := by decide +kernel
theorem dX12_text_224 : decode cX12_text 224 = .ok (.invokestatic 297, 3) := by decide +kernel
theorem dX12_text_227 : decode cX12_text 227 = .ok (.aload_n 0, 1) := by decide +kernel
theorem dX12_text_228 : decode cX12_text 228 = .ok (.getfield 31, 3) := by decide +kernel
theorem dX12_text_231 : decode cX12_text 231 = .ok (.invokestatic 297, 3) := by decide +kernel
theorem dX12_text_234 : decode cX12_text 234 = .ok (.aload_n 0, 1) := by decide +kernel
theorem dX12_text_235 : decode cX12_text 235 = .ok (.getfield 34, 3) := by decide +kernel
theorem dX12_text_238 : decode cX12_text 238 = .ok (.invokestatic 297, 3) := by decide +kernel
theorem dX12_text_241 : decode cX12_text 241 = .ok (.aload_n 0, 1) := by decide +kernel
theorem dX12_text_242 : decode cX12_text 242 = .ok (.getfield 37, 3) := by decide +kernel
theorem dX12_text_245 : decode cX12_text 245 = .ok (.invokestatic 297, 3) := by decide +kernel
theorem dX12_text_248 : decode cX12_text 248 = .ok (.aload_n 0, 1) := by decide +kernel
theorem dX12_text_249 : decode cX12_text 249 = .ok (.getfield 40, 3) := by decide +kernel
theorem dX12_text_252 : decode cX12_text 252 = .ok (.invokestatic 297, 3) := by decide +kernel
theorem dX12_text_255 : decode cX12_text 255 = .ok (.aload_n 0, 1) := by decide +kernel
theorem dX12_text_256 : decode cX12_text 256 = .ok (.getfield 43, 3) := by decide +kernel
theorem dX12_text_259 : decode cX12_text 259 = .ok (.invokestatic 297, 3) := by decide +kernel
theorem dX12_text_262 : decode cX12_text 262 = .ok (.aload_n 0, 1) := by decide +kernel
theorem dX12_text_263 : decode cX12_text 263 = .ok (.getfield 46, 3) := by decide +kernel
theorem dX12_text_266 : decode cX12_text 266 = .ok (.invokestatic 297, 3) := by decide +kernel
theorem dX12_text_269 : decode cX12_text 269 = .ok (.aload_n 0, 1) := by decide +kernel
theorem dX12_text_270 : decode cX12_text 270 = .ok (.getfield 49, 3) := by decide +kernel
theorem dX12_text_273 : decode cX12_text 273 = .ok (.invokestatic 297, 3) := by decide +kernel
theorem dX12_text_276 : decode cX12_text 276 = .ok (.aload_n 0, 1) := by decide +kernel
theorem dX12_text_277 : decode cX12_text 277 = .ok (.iconst 0, 1) := by decide +kernel
theorem dX12_text_278 : decode cX12_text 278 = .ok (.putfield 301, 3) := by decide +kernel
theorem dX12_text_281 : decode cX12_text 281 = .ok (.aload_n 0, 1) := by decide +kernel
theorem dX12_text_282 : decode cX12_text 282 = .ok (.iconst (-1), 1) := by decide +kernel
theorem dX12_text_283 : decode cX12_text 283 = .ok (.putfield 123, 3) := by decide +kernel
theorem dX12_text_286 : decode cX12_text 286 = .ok (.aload_n 0, 1) := by decide +kernel
theorem dX12_text_287 : decode cX12_text 287 = .ok (.iconst 0, 1) := by decide +kernel
theorem dX12_text_288 : decode cX12_text 288 = .ok (.putfield 304, 3) := by decide +kernel
theorem dX12_text_291 : decode cX12_text 291 = .ok (.aload_n 0, 1) := by decide +kernel
theorem dX12_text_292 : decode cX12_text 292 = .ok (.iconst 0, 1) := by decide +kernel
theorem dX12_text_293 : decode cX12_text 293 = .ok (.putfield 308, 3) := by decide +kernel
theorem dX12_text_296 : decode cX12_text 296 = .ok (.aload_n 0, 1) := by decide +kernel
theorem dX12_text_297 : decode cX12_text 297 = .ok (.iconst 0, 1) := by decide +kernel
theorem dX12_text_298 : decode cX12_text 298 = .ok (.invokevirtual 311, 3) := by decide +kernel
theorem dX12_text_301 : decode cX12_text 301 = .ok (.aload_n 0, 1) := by decide +kernel
theorem dX12_text_302 : decode cX12_text 302 = .ok (.getfield 255, 3) := by decide +kernel
theorem dX12_text_305 : decode cX12_text 305 = .ok (.ireturn, 1) := by decide +kernel
theorem dX12_fault_0 : decode cX12_fault 0 = .ok (.aload_n 0, 1) := by decide +kernel
theorem dX12_fault_1 : decode cX12_fault 1 = .ok (.iconst 0, 1) := by decide +kernel
theorem dX12_fault_2 : decode cX12_fault 2 = .ok (.putfield 145, 3) := by decide +kernel
theorem dX12_fault_5 : decode cX12_fault 5 = .ok (.iload_n 1, 1) := by decide +kernel
theorem dX12_fault_6 : decode cX12_fault 6 = .ok (.ifCond .ne 10, 3) := by decide +kernel
theorem dX12_fault_9 : decode cX12_fault 9 = .ok (.aload_n 0, 1) := by decide +kernel
theorem dX12_fault_10 : decode cX12_fault 10 = .ok (.getfield 294, 3) := by decide +kernel
theorem dX12_fault_13 : decode cX12_fault 13 = .ok (.goto 16, 3) := by decide +kernel
theorem dX12_fault_16 : decode cX12_fault 16 = .ok (.iload_n 1, 1) := by decide +kernel
theorem dX12_fault_17 : decode cX12_fault 17 = .ok (.iconst 1, 1) := by decide +kernel
theorem dX12_fault_18 : decode cX12_fault 18 = .ok (.if_icmp .ne 10, 3) := by decide +kernel
theorem dX12_fault_21 : decode cX12_fault 21 = .ok (.aload_n 0, 1) := by decide +kernel
theorem dX12_fault_22 : decode cX12_fault 22 = .ok (.getfield 52, 3) := by decide +kernel
theorem dX12_fault_25 : decode cX12_fault 25 = .ok (.goto 4, 3) := by decide +kernel
theorem dX12_fault_28 : decode cX12_fault 28 = .ok (.iconst (-1), 1) := by decide +kernel
theorem dX12_fault_29 : decode cX12_fault 29 = .ok (.ireturn, 1) := by decide +kernel
set_option maxRecDepth 20000 in
theorem ggX12_named_X12_found : GoodIn wsX12_named wsX12_found := goodIn_r _ [7] rfl (by decide +kernel)
set_option maxRecDepth 20000 in
theorem gX12_named_X12_found : GoodIn wsX12_named (va_wsS RX12 211 yX12_found wsX12_found) := goodIn_app (goodIn_of _ (by decide +kernel)) ggX12_named_X12_found
theorem dX12_named_0 : decode cX12_named 0 = .ok (.aload_n 0, 1) := by decide +kernel
theorem dX12_named_1 : decode cX12_named 1 = .ok (.iconst 0, 1) := by decide +kernel
theorem dX12_named_2 : decode cX12_named 2 = .ok (.putfield 145, 3) := by decide +kernel
theorem dX12_named_5 : decode cX12_named 5 = .ok (.aload_n 0, 1) := by decide +kernel
theorem dX12_named_6 : decode cX12_named 6 = .ok (.getfield 16, 3) := by decide +kernel
theorem dX12_named_9 : decode cX12_named 9 = .ok (.iconst 0, 1) := by decide +kernel
theorem dX12_named_10 : decode cX12_named 10 = .ok (.aload_n 0, 1) := by decide +kernel
theorem dX12_named_11 : decode cX12_named 11 = .ok (.getfield 13, 3) := by decide +kernel
theorem dX12_named_14 : decode cX12_named 14 = .ok (.iconst 0, 1) := by decide +kernel
theorem dX12_named_15 : decode cX12_named 15 = .ok (.iaload, 1) := by decide +kernel
theorem dX12_named_16 : decode cX12_named 16 = .ok (.iload_n 1, 1) := by decide +kernel
theorem dX12_named_17 : decode cX12_named 17 = .ok (.invokestatic 211, 3) := by decide +kernel
theorem dX12_named_20 : decode cX12_named 20 = .ok (.ireturn, 1) := by decide +kernel
theorem dX12_is_0 : decode cX12_is 0 = .ok (.iload_n 0, 1) := by decide +kernel
theorem dX12_is_1 : decode cX12_is 1 = .ok (.ifCond .eq 7, 3) := by decide +kernel
theorem dX12_is_4 : decode cX12_is 4 = .ok (.lconst 1, 1) := by decide +kernel
theorem dX12_is_5 : decode cX12_is 5 = .ok (.goto 4, 3) := by decide +kernel
theorem dX12_is_8 : decode cX12_is 8 = .ok (.lconst 0, 1) := by decide +kernel
theorem dX12_is_9 : decode cX12_is 9 = .ok (.lreturn, 1) := by decide +kernel
set_option maxRecDepth 20000 in
theorem ggX12_works_X12_is : GoodIn wsX12_works wsX12_is := goodIn_r _ [12] rfl (by decide +kernel)
set_option maxRecDepth 20000 in
theorem gX12_works_X12_is : GoodIn wsX12_works (va_wsS RX12 317 yX12_is wsX12_is) := goodIn_app (goodIn_of _ (by decide +kernel)) ggX12_works_X12_is
theorem dX12_works_0 : decode cX12_works 0 = .ok (.aload_n 0, 1) := by decide +kernel
theorem dX12_works_1 : decode cX12_works 1 = .ok (.getfield 60, 3) := by decide +kernel
theorem dX12_works_4 : decode cX12_works 4 = .ok (.aload_n 0, 1) := by decide +kernel
theorem dX12_works_5 : decode cX12_works 5 = .ok (.getfield 314, 3) := by decide +kernel
theorem dX12_works_8 : decode cX12_works 8 = .ok (.iconst 1, 1) := by decide +kernel
theorem dX12_works_9 : decode cX12_works 9 = .ok (.isub, 1) := by decide +kernel
theorem dX12_works_10 : decode cX12_works 10 = .ok (.laload, 1) := by decide +kernel
theorem dX12_works_11 : decode cX12_works 11 = .ok (.lstore_n 2, 1) := by decide +kernel
theorem dX12_works_12 : decode cX12_works 12 = .ok (.iload_n 1, 1) := by decide +kernel
theorem dX12_works_13 : decode cX12_works 13 = .ok (.sipush 260, 3) := by decide +kernel
theorem dX12_works_16 : decode cX12_works 16 = .ok (.if_icmp .ne 30, 3) := by decide +kernel
theorem dX12_works_19 : decode cX12_works 19 = .ok (.aload_n 0, 1) := by decide +kernel
theorem dX12_works_20 : decode cX12_works 20 = .ok (.getfield 60, 3) := by decide +kernel
theorem dX12_works_23 : decode cX12_works 23 = .ok (.aload_n 0, 1) := by decide +kernel
theorem dX12_works_24 : decode cX12_works 24 = .ok (.getfield 314, 3) := by decide +kernel
theorem dX12_works_27 : decode cX12_works 27 = .ok (.iconst 1, 1) := by decide +kernel
theorem dX12_works_28 : decode cX12_works 28 = .ok (.isub, 1) := by decide +kernel
theorem dX12_works_29 : decode cX12_works 29 = .ok (.lload_n 2, 1) := by decide +kernel
theorem dX12_works_30 : decode cX12_works 30 = .ok (.lconst 0, 1) := by decide +kernel
theorem dX12_works_31 : decode cX12_works 31 = .ok (.lcmp, 1) := by decide +kernel
theorem dX12_works_32 : decode cX12_works 32 = .ok (.ifCond .ne 7, 3) := by decide +kernel
theorem dX12_works_35 : decode cX12_works 35 = .ok (.iconst 1, 1) := by decide +kernel
theorem dX12_works_36 : decode cX12_works 36 = .ok (.goto 4, 3) := by decide +kernel
theorem dX12_works_39 : decode cX12_works 39 = .ok (.iconst 0, 1) := by decide +kernel
theorem dX12_works_40 : decode cX12_works 40 = .ok (.invokestatic 317, 3) := by decide +kernel
theorem dX12_works_43 : decode cX12_works 43 = .ok (.lastore, 1) := by decide +kernel
theorem dX12_works_44 : decode cX12_works 44 = .ok (.iconst 1, 1) := by decide +kernel
theorem dX12_works_45 : decode cX12_works 45 = .ok (.ireturn, 1) := by decide +kernel
theorem dX12_works_46 : decode cX12_works 46 = .ok (.aload_n 0, 1) := by decide +kernel
theorem dX12_works_47 : decode cX12_works 47 = .ok (.getfield 60, 3) := by decide +kernel
theorem dX12_works_50 : decode cX12_works 50 = .ok (.aload_n 0, 1) := by decide +kernel
theorem dX12_works_51 : decode cX12_works 51 = .ok (.getfield 314, 3) := by decide +kernel
theorem dX12_works_54 : decode cX12_works 54 = .ok (.iconst 2, 1) := by decide +kernel
theorem dX12_works_55 : decode cX12_works 55 = .ok (.isub, 1) := by decide +kernel
theorem dX12_works_56 : decode cX12_works 56 = .ok (.laload, 1) := by decide +kernel
theorem dX12_works_57 : decode cX12_works 57 = .ok (.lstore 4, 2) := by decide +kernel
theorem dX12_works_59 : decode cX12_works 59 = .ok (.aload_n 0, 1) := by decide +kernel
theorem dX12_works_60 : decode cX12_works 60 = .ok (.dup, 1) := by decide +kernel
theorem dX12_works_61 : decode cX12_works 61 = .ok (.getfield 314, 3) := by decide +kernel
theorem dX12_works_64 : decode cX12_works 64 = .ok (.iconst 1, 1) := by decide +kernel
theorem dX12_works_65 : decode cX12_works 65 = .ok (.isub, 1) := by decide +kernel
theorem dX12_works_66 : decode cX12_works 66 = .ok (.putfield 314, 3) := by decide +kernel
theorem dX12_works_69 : decode cX12_works 69 = .ok (.iload_n 1, 1) := by decide +kernel
theorem dX12_works_70 : decode cX12_works 70 = .ok (.lookupswitch 314 #[(42, 116), (43, 98), (45, 107), (47, 151), (60, 168), (61, 208), (62, 188), (256, 228), (257, 268), (258, 248), (261, 288)], 98) := by decide +kernel
theorem dX12_works_168 : decode cX12_works 168 = .ok (.lload 4, 2) := by decide +kernel
theorem dX12_works_170 : decode cX12_works 170 = .ok (.lload_n 2, 1) := by decide +kernel
theorem dX12_works_171 : decode cX12_works 171 = .ok (.ladd, 1) := by decide +kernel
theorem dX12_works_172 : decode cX12_works 172 = .ok (.lstore 6, 2) := by decide +kernel
theorem dX12_works_174 : decode cX12_works 174 = .ok (.goto 233, 3) := by decide +kernel
theorem dX12_works_177 : decode cX12_works 177 = .ok (.lload 4, 2) := by decide +kernel
theorem dX12_works_179 : decode cX12_works 179 = .ok (.lload_n 2, 1) := by decide +kernel
theorem dX12_works_180 : decode cX12_works 180 = .ok (.lsub, 1) := by decide +kernel
theorem dX12_works_181 : decode cX12_works 181 = .ok (.lstore 6, 2) := by decide +kernel
theorem dX12_works_183 : decode cX12_works 183 = .ok (.goto 224, 3) := by decide +kernel
theorem dX12_works_186 : decode cX12_works 186 = .ok (.lload 4, 2) := by decide +kernel
theorem dX12_works_188 : decode cX12_works 188 = .ok (.lconst 0, 1) := by decide +kernel
theorem dX12_works_189 : decode cX12_works 189 = .ok (.lcmp, 1) := by decide +kernel
theorem dX12_works_190 : decode cX12_works 190 = .ok (.ifCond .eq 22, 3) := by decide +kernel
theorem dX12_works_193 : decode cX12_works 193 = .ok (.lload_n 2, 1) := by decide +kernel
theorem dX12_works_194 : decode cX12_works 194 = .ok (.invokestatic 321, 3) := by decide +kernel
theorem dX12_works_197 : decode cX12_works 197 = .ok (.ldc2_w 327, 3) := by decide +kernel
theorem dX12_works_200 : decode cX12_works 200 = .ok (.lload 4, 2) := by decide +kernel
theorem dX12_works_202 : decode cX12_works 202 = .ok (.invokestatic 321, 3) := by decide +kernel
theorem dX12_works_205 : decode cX12_works 205 = .ok (.ldiv, 1) := by decide +kernel
theorem dX12_works_206 : decode cX12_works 206 = .ok (.lcmp, 1) := by decide +kernel
theorem dX12_works_207 : decode cX12_works 207 = .ok (.ifCond .le 5, 3) := by decide +kernel
theorem dX12_works_210 : decode cX12_works 210 = .ok (.iconst 0, 1) := by decide +kernel
theorem dX12_works_211 : decode cX12_works 211 = .ok (.ireturn, 1) := by decide +kernel
theorem dX12_works_212 : decode cX12_works 212 = .ok (.lload 4, 2) := by decide +kernel
theorem dX12_works_214 : decode cX12_works 214 = .ok (.lload_n 2, 1) := by decide +kernel
theorem dX12_works_215 : decode cX12_works 215 = .ok (.lmul, 1) := by decide +kernel
theorem dX12_works_216 : decode cX12_works 216 = .ok (.lstore 6, 2) := by decide +kernel
theorem dX12_works_218 : decode cX12_works 218 = .ok (.goto 189, 3) := by decide +kernel
theorem dX12_works_221 : decode cX12_works 221 = .ok (.lload_n 2, 1) := by decide +kernel
theorem dX12_works_222 : decode cX12_works 222 = .ok (.lconst 0, 1) := by decide +kernel
theorem dX12_works_223 : decode cX12_works 223 = .ok (.lcmp, 1) := by decide +kernel
theorem dX12_works_224 : decode cX12_works 224 = .ok (.ifCond .ne 5, 3) := by decide +kernel
theorem dX12_works_227 : decode cX12_works 227 = .ok (.iconst 0, 1) := by decide +kernel
theorem dX12_works_228 : decode cX12_works 228 = .ok (.ireturn, 1) := by decide +kernel
theorem dX12_works_229 : decode cX12_works 229 = .ok (.lload 4, 2) := by decide +kernel
theorem dX12_works_231 : decode cX12_works 231 = .ok (.lload_n 2, 1) := by decide +kernel
theorem dX12_works_232 : decode cX12_works 232 = .ok (.ldiv, 1) := by decide +kernel
theorem dX12_works_233 : decode cX12_works 233 = .ok (.lstore 6, 2) := by decide +kernel
theorem dX12_works_235 : decode cX12_works 235 = .ok (.goto 172, 3) := by decide +kernel
theorem dX12_works_238 : decode cX12_works 238 = .ok (.lload 4, 2) := by decide +kernel
theorem dX12_works_240 : decode cX12_works 240 = .ok (.lload_n 2, 1) := by decide +kernel
theorem dX12_works_241 : decode cX12_works 241 = .ok (.lcmp, 1) := by decide +kernel
theorem dX12_works_242 : decode cX12_works 242 = .ok (.ifCond .ge 7, 3) := by decide +kernel
theorem dX12_works_245 : decode cX12_works 245 = .ok (.iconst 1, 1) := by decide +kernel
theorem dX12_works_246 : decode cX12_works 246 = .ok (.goto 4, 3) := by decide +kernel
theorem dX12_works_249 : decode cX12_works 249 = .ok (.iconst 0, 1) := by decide +kernel
theorem dX12_works_250 : decode cX12_works 250 = .ok (.invokestatic 317, 3) := by decide +kernel
theorem dX12_works_253 : decode cX12_works 253 = .ok (.lstore 6, 2) := by decide +kernel
theorem dX12_works_255 : decode cX12_works 255 = .ok (.goto 152, 3) := by decide +kernel
theorem dX12_works_258 : decode cX12_works 258 = .ok (.lload 4, 2) := by decide +kernel
theorem dX12_works_260 : decode cX12_works 260 = .ok (.lload_n 2, 1) := by decide +kernel
theorem dX12_works_261 : decode cX12_works 261 = .ok (.lcmp, 1) := by decide +kernel
theorem dX12_works_262 : decode cX12_works 262 = .ok (.ifCond .le 7, 3) := by decide +kernel
theorem dX12_works_265 : decode cX12_works 265 = .ok (.iconst 1, 1) := by decide +kernel
theorem dX12_works_266 : decode cX12_works 266 = .ok (.goto 4, 3) := by decide +kernel
theorem dX12_works_269 : decode cX12_works 269 = .ok (.iconst 0, 1) := by decide +kernel
theorem dX12_works_270 : decode cX12_works 270 = .ok (.invokestatic 317, 3) := by decide +kernel
theorem dX12_works_273 : decode cX12_works 273 = .ok (.lstore 6, 2) := by decide +kernel
theorem dX12_works_275 : decode cX12_works 275 = .ok (.goto 132, 3) := by decide +kernel
theorem dX12_works_278 : decode cX12_works 278 = .ok (.lload 4, 2) := by decide +kernel
theorem dX12_works_280 : decode cX12_works 280 = .ok (.lload_n 2, 1) := by decide +kernel
theorem dX12_works_281 : decode cX12_works 281 = .ok (.lcmp, 1) := by decide +kernel
theorem dX12_works_282 : decode cX12_works 282 = .ok (.ifCond .ne 7, 3) := by decide +kernel
theorem dX12_works_285 : decode cX12_works 285 = .ok (.iconst 1, 1) := by decide +kernel
theorem dX12_works_286 : decode cX12_works 286 = .ok (.goto 4, 3) := by decide +kernel
theorem dX12_works_289 : decode cX12_works 289 = .ok (.iconst 0, 1) := by decide +kernel
theorem dX12_works_290 : decode cX12_works 290 = .ok (.invokestatic 317, 3) := by decide +kernel
theorem dX12_works_293 : decode cX12_works 293 = .ok (.lstore 6, 2) := by decide +kernel
theorem dX12_works_295 : decode cX12_works 295 = .ok (.goto 112, 3) := by decide +kernel
theorem dX12_works_298 : decode cX12_works 298 = .ok (.lload 4, 2) := by decide +kernel
theorem dX12_works_300 : decode cX12_works 300 = .ok (.lload_n 2, 1) := by decide +kernel
theorem dX12_works_301 : decode cX12_works 301 = .ok (.lcmp, 1) := by decide +kernel
theorem dX12_works_302 : decode cX12_works 302 = .ok (.ifCond .gt 7, 3) := by decide +kernel
theorem dX12_works_305 : decode cX12_works 305 = .ok (.iconst 1, 1) := by decide +kernel
theorem dX12_works_306 : decode cX12_works 306 = .ok (.goto 4, 3) := by decide +kernel
theorem dX12_works_309 : decode cX12_works 309 = .ok (.iconst 0, 1) := by decide +kernel
theorem dX12_works_310 : decode cX12_works 310 = .ok (.invokestatic 317, 3) := by decide +kernel
theorem dX12_works_313 : decode cX12_works 313 = .ok (.lstore 6, 2) := by decide +kernel
theorem dX12_works_315 : decode cX12_works 315 = .ok (.goto 92, 3) := by decide +kernel
theorem dX12_works_318 : decode cX12_works 318 = .ok (.lload 4, 2) := by decide +kernel
theorem dX12_works_320 : decode cX12_works 320 = .ok (.lload_n 2, 1) := by decide +kernel
theorem dX12_works_321 : decode cX12_works 321 = .ok (.lcmp, 1) := by decide +kernel
theorem dX12_works_322 : decode cX12_works 322 = .ok (.ifCond .lt 7, 3) := by decide +kernel
theorem dX12_works_325 : decode cX12_works 325 = .ok (.iconst 1, 1) := by decide +kernel
theorem dX12_works_326 : decode cX12_works 326 = .ok (.goto 4, 3) := by decide +kernel
theorem dX12_works_329 : decode cX12_works 329 = .ok (.iconst 0, 1) := by decide +kernel
theorem dX12_works_330 : decode cX12_works 330 = .ok (.invokestatic 317, 3) := by decide +kernel
theorem dX12_works_333 : decode cX12_works 333 = .ok (.lstore 6, 2) := by decide +kernel
theorem dX12_works_335 : decode cX12_works 335 = .ok (.goto 72, 3) := by decide +kernel
theorem dX12_works_338 : decode cX12_works 338 = .ok (.lload 4, 2) := by decide +kernel
theorem dX12_works_340 : decode cX12_works 340 = .ok (.lload_n 2, 1) := by decide +kernel
theorem dX12_works_341 : decode cX12_works 341 = .ok (.lcmp, 1) := by decide +kernel
theorem dX12_works_342 : decode cX12_works 342 = .ok (.ifCond .eq 7, 3) := by decide +kernel
theorem dX12_works_345 : decode cX12_works 345 = .ok (.iconst 1, 1) := by decide +kernel
theorem dX12_works_346 : decode cX12_works 346 = .ok (.goto 4, 3) := by decide +kernel
theorem dX12_works_349 : decode cX12_works 349 = .ok (.iconst 0, 1) := by decide +kernel
theorem dX12_works_350 : decode cX12_works 350 = .ok (.invokestatic 317, 3) := by decide +kernel
theorem dX12_works_353 : decode cX12_works 353 = .ok (.lstore 6, 2) := by decide +kernel
theorem dX12_works_355 : decode cX12_works 355 = .ok (.goto 52, 3) := by decide +kernel
theorem dX12_works_358 : decode cX12_works 358 = .ok (.lload 4, 2) := by decide +kernel
theorem dX12_works_360 : decode cX12_works 360 = .ok (.lconst 0, 1) := by decide +kernel
theorem dX12_works_361 : decode cX12_works 361 = .ok (.lcmp, 1) := by decide +kernel
theorem dX12_works_362 : decode cX12_works 362 = .ok (.ifCond .eq 13, 3) := by decide +kernel
theorem dX12_works_365 : decode cX12_works 365 = .ok (.lload_n 2, 1) := by decide +kernel
theorem dX12_works_366 : decode cX12_works 366 = .ok (.lconst 0, 1) := by decide +kernel
theorem dX12_works_367 : decode cX12_works 367 = .ok (.lcmp, 1) := by decide +kernel
theorem dX12_works_368 : decode cX12_works 368 = .ok (.ifCond .eq 7, 3) := by decide +kernel
theorem dX12_works_371 : decode cX12_works 371 = .ok (.iconst 1, 1) := by decide +kernel
theorem dX12_works_372 : decode cX12_works 372 = .ok (.goto 4, 3) := by decide +kernel
theorem dX12_works_375 : decode cX12_works 375 = .ok (.iconst 0, 1) := by decide +kernel
theorem dX12_works_376 : decode cX12_works 376 = .ok (.invokestatic 317, 3) := by decide +kernel
theorem dX12_works_379 : decode cX12_works 379 = .ok (.lstore 6, 2) := by decide +kernel
theorem dX12_works_381 : decode cX12_works 381 = .ok (.goto 26, 3) := by decide +kernel
theorem dX12_works_384 : decode cX12_works 384 = .ok (.lload 4, 2) := by decide +kernel
theorem dX12_works_386 : decode cX12_works 386 = .ok (.lconst 0, 1) := by decide +kernel
theorem dX12_works_387 : decode cX12_works 387 = .ok (.lcmp, 1) := by decide +kernel
theorem dX12_works_388 : decode cX12_works 388 = .ok (.ifCond .ne 9, 3) := by decide +kernel
theorem dX12_works_391 : decode cX12_works 391 = .ok (.lload_n 2, 1) := by decide +kernel
theorem dX12_works_392 : decode cX12_works 392 = .ok (.lconst 0, 1) := by decide +kernel
theorem dX12_works_393 : decode cX12_works 393 = .ok (.lcmp, 1) := by decide +kernel
theorem dX12_works_394 : decode cX12_works 394 = .ok (.ifCond .eq 7, 3) := by decide +kernel
theorem dX12_works_397 : decode cX12_works 397 = .ok (.iconst 1, 1) := by decide +kernel
theorem dX12_works_398 : decode cX12_works 398 = .ok (.goto 4, 3) := by decide +kernel
theorem dX12_works_401 : decode cX12_works 401 = .ok (.iconst 0, 1) := by decide +kernel
theorem dX12_works_402 : decode cX12_works 402 = .ok (.invokestatic 317, 3) := by decide +kernel
theorem dX12_works_405 : decode cX12_works 405 = .ok (.lstore 6, 2) := by decide +kernel
theorem dX12_works_407 : decode cX12_works 407 = .ok (.aload_n 0, 1) := by decide +kernel
theorem dX12_works_408 : decode cX12_works 408 = .ok (.getfield 60, 3) := by decide +kernel
theorem dX12_works_411 : decode cX12_works 411 = .ok (.aload_n 0, 1) := by decide +kernel
theorem dX12_works_412 : decode cX12_works 412 = .ok (.getfield 314, 3) := by decide +kernel
theorem dX12_works_415 : decode cX12_works 415 = .ok (.iconst 1, 1) := by decide +kernel
theorem dX12_works_416 : decode cX12_works 416 = .ok (.isub, 1) := by decide +kernel
theorem dX12_works_417 : decode cX12_works 417 = .ok (.lload 6, 2) := by decide +kernel
theorem dX12_works_419 : decode cX12_works 419 = .ok (.lastore, 1) := by decide +kernel
theorem dX12_works_420 : decode cX12_works 420 = .ok (.lload 6, 2) := by decide +kernel
theorem dX12_works_422 : decode cX12_works 422 = .ok (.ldc2_w 327, 3) := by decide +kernel
theorem dX12_works_425 : decode cX12_works 425 = .ok (.lcmp, 1) := by decide +kernel
theorem dX12_works_426 : decode cX12_works 426 = .ok (.ifCond .gt 16, 3) := by decide +kernel
theorem dX12_works_429 : decode cX12_works 429 = .ok (.lload 6, 2) := by decide +kernel
theorem dX12_works_431 : decode cX12_works 431 = .ok (.ldc2_w 329, 3) := by decide +kernel
theorem dX12_works_434 : decode cX12_works 434 = .ok (.lcmp, 1) := by decide +kernel
theorem dX12_works_435 : decode cX12_works 435 = .ok (.ifCond .lt 7, 3) := by decide +kernel
theorem dX12_works_438 : decode cX12_works 438 = .ok (.iconst 1, 1) := by decide +kernel
theorem dX12_works_439 : decode cX12_works 439 = .ok (.goto 4, 3) := by decide +kernel
theorem dX12_works_442 : decode cX12_works 442 = .ok (.iconst 0, 1) := by decide +kernel
theorem dX12_works_443 : decode cX12_works 443 = .ok (.ireturn, 1) := by decide +kernel
set_option maxRecDepth 20000 in
theorem ggX12_goes_X12_works : GoodIn wsX12_goes wsX12_works := goodIn_r _ [12, 6, 1, 13, 14, 15, 16, 17, 18, 19, 20, 11, 21, 22, 23, 24, 25, 26, 27, 28, 29, 30, 31, 32, 33, 34, 35, 36, 37, 38, 39, 40, 41, 42, 43, 44, 45, 46, 47, 48, 49, 50, 51, 52, 53, 54, 55, 56, 57, 58, 59, 60, 61, 62, 63, 64, 65, 66, 67, 68, 69, 70, 71, 72, 73, 74, 75, 76, 77, 78, 79, 80, 81, 82, 83, 84, 85, 86, 87] rfl (by decide +kernel)
set_option maxRecDepth 20000 in
theorem gX12_goes_X12_works : GoodIn wsX12_goes (wsV RX12 331 RX12 yX12_works wsX12_works) := goodIn_app (goodIn_r _ [8, 9, 10, 11] rfl (by decide +kernel)) ggX12_goes_X12_works
theorem dX12_goes_0 : decode cX12_goes 0 = .ok (.aload_n 0, 1) := by decide +kernel
theorem dX12_goes_1 : decode cX12_goes 1 = .ok (.iconst 0, 1) := by decide +kernel
theorem dX12_goes_2 : decode cX12_goes 2 = .ok (.putfield 314, 3) := by decide +kernel
theorem dX12_goes_5 : decode cX12_goes 5 = .ok (.aload_n 0, 1) := by decide +kernel
theorem dX12_goes_6 : decode cX12_goes 6 = .ok (.getfield 40, 3) := by decide +kernel
theorem dX12_goes_9 : decode cX12_goes 9 = .ok (.iload_n 1, 1) := by decide +kernel
theorem dX12_goes_10 : decode cX12_goes 10 = .ok (.iaload, 1) := by decide +kernel
theorem dX12_goes_11 : decode cX12_goes 11 = .ok (.istore_n 2, 1) := by decide +kernel
theorem dX12_goes_12 : decode cX12_goes 12 = .ok (.iload_n 2, 1) := by decide +kernel
theorem dX12_goes_13 : decode cX12_goes 13 = .ok (.aload_n 0, 1) := by decide +kernel
theorem dX12_goes_14 : decode cX12_goes 14 = .ok (.getfield 43, 3) := by decide +kernel
theorem dX12_goes_17 : decode cX12_goes 17 = .ok (.iload_n 1, 1) := by decide +kernel
theorem dX12_goes_18 : decode cX12_goes 18 = .ok (.iaload, 1) := by decide +kernel
theorem dX12_goes_19 : decode cX12_goes 19 = .ok (.if_icmp .ge 83, 3) := by decide +kernel
theorem dX12_goes_22 : decode cX12_goes 22 = .ok (.aload_n 0, 1) := by decide +kernel
theorem dX12_goes_23 : decode cX12_goes 23 = .ok (.getfield 46, 3) := by decide +kernel
theorem dX12_goes_26 : decode cX12_goes 26 = .ok (.iload_n 2, 1) := by decide +kernel
theorem dX12_goes_27 : decode cX12_goes 27 = .ok (.iaload, 1) := by decide +kernel
theorem dX12_goes_28 : decode cX12_goes 28 = .ok (.iconst 2, 1) := by decide +kernel
theorem dX12_goes_29 : decode cX12_goes 29 = .ok (.if_icmp .ne 18, 3) := by decide +kernel
theorem dX12_goes_32 : decode cX12_goes 32 = .ok (.aload_n 0, 1) := by decide +kernel
theorem dX12_goes_33 : decode cX12_goes 33 = .ok (.aload_n 0, 1) := by decide +kernel
theorem dX12_goes_34 : decode cX12_goes 34 = .ok (.getfield 49, 3) := by decide +kernel
theorem dX12_goes_37 : decode cX12_goes 37 = .ok (.iload_n 2, 1) := by decide +kernel
theorem dX12_goes_38 : decode cX12_goes 38 = .ok (.iaload, 1) := by decide +kernel
theorem dX12_goes_39 : decode cX12_goes 39 = .ok (.invokevirtual 331, 3) := by decide +kernel
theorem dX12_goes_42 : decode cX12_goes 42 = .ok (.ifCond .ne 54, 3) := by decide +kernel
theorem dX12_goes_45 : decode cX12_goes 45 = .ok (.iconst 0, 1) := by decide +kernel
theorem dX12_goes_46 : decode cX12_goes 46 = .ok (.ireturn, 1) := by decide +kernel
theorem dX12_goes_47 : decode cX12_goes 47 = .ok (.aload_n 0, 1) := by decide +kernel
theorem dX12_goes_48 : decode cX12_goes 48 = .ok (.getfield 60, 3) := by decide +kernel
theorem dX12_goes_51 : decode cX12_goes 51 = .ok (.aload_n 0, 1) := by decide +kernel
theorem dX12_goes_52 : decode cX12_goes 52 = .ok (.getfield 314, 3) := by decide +kernel
theorem dX12_goes_55 : decode cX12_goes 55 = .ok (.aload_n 0, 1) := by decide +kernel
theorem dX12_goes_56 : decode cX12_goes 56 = .ok (.getfield 46, 3) := by decide +kernel
theorem dX12_goes_59 : decode cX12_goes 59 = .ok (.iload_n 2, 1) := by decide +kernel
theorem dX12_goes_60 : decode cX12_goes 60 = .ok (.iaload, 1) := by decide +kernel
theorem dX12_goes_61 : decode cX12_goes 61 = .ok (.ifCond .ne 13, 3) := by decide +kernel
theorem dX12_goes_64 : decode cX12_goes 64 = .ok (.aload_n 0, 1) := by decide +kernel
theorem dX12_goes_65 : decode cX12_goes 65 = .ok (.getfield 49, 3) := by decide +kernel
theorem dX12_goes_68 : decode cX12_goes 68 = .ok (.iload_n 2, 1) := by decide +kernel
theorem dX12_goes_69 : decode cX12_goes 69 = .ok (.iaload, 1) := by decide +kernel
theorem dX12_goes_70 : decode cX12_goes 70 = .ok (.i2l, 1) := by decide +kernel
theorem dX12_goes_71 : decode cX12_goes 71 = .ok (.goto 14, 3) := by decide +kernel
theorem dX12_goes_74 : decode cX12_goes 74 = .ok (.aload_n 0, 1) := by decide +kernel
theorem dX12_goes_75 : decode cX12_goes 75 = .ok (.getfield 56, 3) := by decide +kernel
theorem dX12_goes_78 : decode cX12_goes 78 = .ok (.aload_n 0, 1) := by decide +kernel
theorem dX12_goes_79 : decode cX12_goes 79 = .ok (.getfield 49, 3) := by decide +kernel
theorem dX12_goes_82 : decode cX12_goes 82 = .ok (.iload_n 2, 1) := by decide +kernel
theorem dX12_goes_83 : decode cX12_goes 83 = .ok (.iaload, 1) := by decide +kernel
theorem dX12_goes_84 : decode cX12_goes 84 = .ok (.laload, 1) := by decide +kernel
theorem dX12_goes_85 : decode cX12_goes 85 = .ok (.lastore, 1) := by decide +kernel
theorem dX12_goes_86 : decode cX12_goes 86 = .ok (.aload_n 0, 1) := by decide +kernel
theorem dX12_goes_87 : decode cX12_goes 87 = .ok (.dup, 1) := by decide +kernel
theorem dX12_goes_88 : decode cX12_goes 88 = .ok (.getfield 314, 3) := by decide +kernel
theorem dX12_goes_91 : decode cX12_goes 91 = .ok (.iconst 1, 1) := by decide +kernel
theorem dX12_goes_92 : decode cX12_goes 92 = .ok (.iadd, 1) := by decide +kernel
theorem dX12_goes_93 : decode cX12_goes 93 = .ok (.putfield 314, 3) := by decide +kernel
theorem dX12_goes_96 : decode cX12_goes 96 = .ok (.iinc 2 1, 3) := by decide +kernel
theorem dX12_goes_99 : decode cX12_goes 99 = .ok (.goto (-87), 3) := by decide +kernel
theorem dX12_goes_102 : decode cX12_goes 102 = .ok (.iconst 1, 1) := by decide +kernel
theorem dX12_goes_103 : decode cX12_goes 103 = .ok (.ireturn, 1) := by decide +kernel
theorem dX12_hasLaw_0 : decode cX12_hasLaw 0 = .ok (.aload_n 0, 1) := by decide +kernel
theorem dX12_hasLaw_1 : decode cX12_hasLaw 1 = .ok (.getfield 43, 3) := by decide +kernel
theorem dX12_hasLaw_4 : decode cX12_hasLaw 4 = .ok (.iload_n 1, 1) := by decide +kernel
theorem dX12_hasLaw_5 : decode cX12_hasLaw 5 = .ok (.iaload, 1) := by decide +kernel
theorem dX12_hasLaw_6 : decode cX12_hasLaw 6 = .ok (.aload_n 0, 1) := by decide +kernel
theorem dX12_hasLaw_7 : decode cX12_hasLaw 7 = .ok (.getfield 40, 3) := by decide +kernel
theorem dX12_hasLaw_10 : decode cX12_hasLaw 10 = .ok (.iload_n 1, 1) := by decide +kernel
theorem dX12_hasLaw_11 : decode cX12_hasLaw 11 = .ok (.iaload, 1) := by decide +kernel
theorem dX12_hasLaw_12 : decode cX12_hasLaw 12 = .ok (.if_icmp .le 7, 3) := by decide +kernel
theorem dX12_hasLaw_15 : decode cX12_hasLaw 15 = .ok (.iconst 1, 1) := by decide +kernel
theorem dX12_hasLaw_16 : decode cX12_hasLaw 16 = .ok (.goto 4, 3) := by decide +kernel
theorem dX12_hasLaw_19 : decode cX12_hasLaw 19 = .ok (.iconst 0, 1) := by decide +kernel
theorem dX12_hasLaw_20 : decode cX12_hasLaw 20 = .ok (.ireturn, 1) := by decide +kernel
set_option maxRecDepth 20000 in
theorem ggX12_begins_X12_starts : GoodIn wsX12_begins wsX12_starts := goodIn_r _ [5, 6, 7, 8, 9, 10, 11, 12, 13, 14, 15, 16, 17, 18, 19, 20, 21, 22, 23, 24, 25, 26, 27, 28, 29, 30, 31, 32, 33, 34, 35, 36, 37, 38, 39, 40, 41, 42, 43, 44, 45, 46, 47, 48, 49, 50, 51, 52, 53, 54, 55, 56, 57, 58, 59, 60, 61, 62, 63, 64, 65, 66, 67, 68, 69, 70, 71, 72, 73, 74, 75, 76, 77, 78, 79, 80, 81, 82, 83, 84] rfl (by decide +kernel)
set_option maxRecDepth 20000 in
theorem gX12_begins_X12_starts : GoodIn wsX12_begins (wsV RX12 311 RX12 yX12_starts wsX12_starts) := goodIn_app (goodIn_r _ [1, 2, 3, 4] rfl (by decide +kernel)) ggX12_begins_X12_starts
theorem dX12_begins_0 : decode cX12_begins 0 = .ok (.aload_n 0, 1) := by decide +kernel
theorem dX12_begins_1 : decode cX12_begins 1 = .ok (.iconst 0, 1) := by decide +kernel
theorem dX12_begins_2 : decode cX12_begins 2 = .ok (.invokevirtual 311, 3) := by decide +kernel
theorem dX12_begins_5 : decode cX12_begins 5 = .ok (.return_, 1) := by decide +kernel
theorem dX12_starts_0 : decode cX12_starts 0 = .ok (.aload_n 0, 1) := by decide +kernel
theorem dX12_starts_1 : decode cX12_starts 1 = .ok (.getfield 63, 3) := by decide +kernel
theorem dX12_starts_4 : decode cX12_starts 4 = .ok (.iload_n 1, 1) := by decide +kernel
theorem dX12_starts_5 : decode cX12_starts 5 = .ok (.iconst 0, 1) := by decide +kernel
theorem dX12_starts_6 : decode cX12_starts 6 = .ok (.iastore, 1) := by decide +kernel
theorem dX12_starts_7 : decode cX12_starts 7 = .ok (.aload_n 0, 1) := by decide +kernel
theorem dX12_starts_8 : decode cX12_starts 8 = .ok (.getfield 66, 3) := by decide +kernel
theorem dX12_starts_11 : decode cX12_starts 11 = .ok (.iload_n 1, 1) := by decide +kernel
theorem dX12_starts_12 : decode cX12_starts 12 = .ok (.aload_n 0, 1) := by decide +kernel
theorem dX12_starts_13 : decode cX12_starts 13 = .ok (.getfield 13, 3) := by decide +kernel
theorem dX12_starts_16 : decode cX12_starts 16 = .ok (.iconst 0, 1) := by decide +kernel
theorem dX12_starts_17 : decode cX12_starts 17 = .ok (.iaload, 1) := by decide +kernel
theorem dX12_starts_18 : decode cX12_starts 18 = .ok (.ifCond .ne 7, 3) := by decide +kernel
theorem dX12_starts_21 : decode cX12_starts 21 = .ok (.iconst (-1), 1) := by decide +kernel
theorem dX12_starts_22 : decode cX12_starts 22 = .ok (.goto 9, 3) := by decide +kernel
theorem dX12_starts_25 : decode cX12_starts 25 = .ok (.aload_n 0, 1) := by decide +kernel
theorem dX12_starts_26 : decode cX12_starts 26 = .ok (.getfield 13, 3) := by decide +kernel
theorem dX12_starts_29 : decode cX12_starts 29 = .ok (.iconst 4, 1) := by decide +kernel
theorem dX12_starts_30 : decode cX12_starts 30 = .ok (.iaload, 1) := by decide +kernel
theorem dX12_starts_31 : decode cX12_starts 31 = .ok (.iastore, 1) := by decide +kernel
theorem dX12_starts_32 : decode cX12_starts 32 = .ok (.aload_n 0, 1) := by decide +kernel
theorem dX12_starts_33 : decode cX12_starts 33 = .ok (.getfield 69, 3) := by decide +kernel
theorem dX12_starts_36 : decode cX12_starts 36 = .ok (.iload_n 1, 1) := by decide +kernel
theorem dX12_starts_37 : decode cX12_starts 37 = .ok (.iconst (-1), 1) := by decide +kernel
theorem dX12_starts_38 : decode cX12_starts 38 = .ok (.iastore, 1) := by decide +kernel
theorem dX12_starts_39 : decode cX12_starts 39 = .ok (.aload_n 0, 1) := by decide +kernel
theorem dX12_starts_40 : decode cX12_starts 40 = .ok (.getfield 72, 3) := by decide +kernel
theorem dX12_starts_43 : decode cX12_starts 43 = .ok (.iload_n 1, 1) := by decide +kernel
theorem dX12_starts_44 : decode cX12_starts 44 = .ok (.iconst (-1), 1) := by decide +kernel
theorem dX12_starts_45 : decode cX12_starts 45 = .ok (.iastore, 1) := by decide +kernel
theorem dX12_starts_46 : decode cX12_starts 46 = .ok (.aload_n 0, 1) := by decide +kernel
theorem dX12_starts_47 : decode cX12_starts 47 = .ok (.getfield 75, 3) := by decide +kernel
theorem dX12_starts_50 : decode cX12_starts 50 = .ok (.iload_n 1, 1) := by decide +kernel
theorem dX12_starts_51 : decode cX12_starts 51 = .ok (.iconst 0, 1) := by decide +kernel
theorem dX12_starts_52 : decode cX12_starts 52 = .ok (.iastore, 1) := by decide +kernel
theorem dX12_starts_53 : decode cX12_starts 53 = .ok (.aload_n 0, 1) := by decide +kernel
theorem dX12_starts_54 : decode cX12_starts 54 = .ok (.getfield 78, 3) := by decide +kernel
theorem dX12_starts_57 : decode cX12_starts 57 = .ok (.iload_n 1, 1) := by decide +kernel
theorem dX12_starts_58 : decode cX12_starts 58 = .ok (.iconst 0, 1) := by decide +kernel
theorem dX12_starts_59 : decode cX12_starts 59 = .ok (.iastore, 1) := by decide +kernel
theorem dX12_starts_60 : decode cX12_starts 60 = .ok (.aload_n 0, 1) := by decide +kernel
theorem dX12_starts_61 : decode cX12_starts 61 = .ok (.getfield 81, 3) := by decide +kernel
theorem dX12_starts_64 : decode cX12_starts 64 = .ok (.iload_n 1, 1) := by decide +kernel
theorem dX12_starts_65 : decode cX12_starts 65 = .ok (.iconst 0, 1) := by decide +kernel
theorem dX12_starts_66 : decode cX12_starts 66 = .ok (.iastore, 1) := by decide +kernel
theorem dX12_starts_67 : decode cX12_starts 67 = .ok (.aload_n 0, 1) := by decide +kernel
theorem dX12_starts_68 : decode cX12_starts 68 = .ok (.getfield 84, 3) := by decide +kernel
theorem dX12_starts_71 : decode cX12_starts 71 = .ok (.iload_n 1, 1) := by decide +kernel
theorem dX12_starts_72 : decode cX12_starts 72 = .ok (.iconst 0, 1) := by decide +kernel
theorem dX12_starts_73 : decode cX12_starts 73 = .ok (.iastore, 1) := by decide +kernel
theorem dX12_starts_74 : decode cX12_starts 74 = .ok (.aload_n 0, 1) := by decide +kernel
theorem dX12_starts_75 : decode cX12_starts 75 = .ok (.getfield 87, 3) := by decide +kernel
theorem dX12_starts_78 : decode cX12_starts 78 = .ok (.iload_n 1, 1) := by decide +kernel
theorem dX12_starts_79 : decode cX12_starts 79 = .ok (.aload_n 0, 1) := by decide +kernel
theorem dX12_starts_80 : decode cX12_starts 80 = .ok (.getfield 13, 3) := by decide +kernel
theorem dX12_starts_83 : decode cX12_starts 83 = .ok (.bipush 7, 2) := by decide +kernel
theorem dX12_starts_85 : decode cX12_starts 85 = .ok (.iaload, 1) := by decide +kernel
theorem dX12_starts_86 : decode cX12_starts 86 = .ok (.iastore, 1) := by decide +kernel
theorem dX12_starts_87 : decode cX12_starts 87 = .ok (.iconst 0, 1) := by decide +kernel
theorem dX12_starts_88 : decode cX12_starts 88 = .ok (.istore_n 2, 1) := by decide +kernel
theorem dX12_starts_89 : decode cX12_starts 89 = .ok (.iload_n 2, 1) := by decide +kernel
theorem dX12_starts_90 : decode cX12_starts 90 = .ok (.bipush 8, 2) := by decide +kernel
theorem dX12_starts_92 : decode cX12_starts 92 = .ok (.if_icmp .ge 45, 3) := by decide +kernel
theorem dX12_starts_95 : decode cX12_starts 95 = .ok (.aload_n 0, 1) := by decide +kernel
theorem dX12_starts_96 : decode cX12_starts 96 = .ok (.getfield 90, 3) := by decide +kernel
theorem dX12_starts_99 : decode cX12_starts 99 = .ok (.bipush 8, 2) := by decide +kernel
theorem dX12_starts_101 : decode cX12_starts 101 = .ok (.iload_n 1, 1) := by decide +kernel
theorem dX12_starts_102 : decode cX12_starts 102 = .ok (.imul, 1) := by decide +kernel
theorem dX12_starts_103 : decode cX12_starts 103 = .ok (.iload_n 2, 1) := by decide +kernel
theorem dX12_starts_104 : decode cX12_starts 104 = .ok (.iadd, 1) := by decide +kernel
theorem dX12_starts_105 : decode cX12_starts 105 = .ok (.iconst 0, 1) := by decide +kernel
theorem dX12_starts_106 : decode cX12_starts 106 = .ok (.iastore, 1) := by decide +kernel
theorem dX12_starts_107 : decode cX12_starts 107 = .ok (.aload_n 0, 1) := by decide +kernel
theorem dX12_starts_108 : decode cX12_starts 108 = .ok (.getfield 93, 3) := by decide +kernel
theorem dX12_starts_111 : decode cX12_starts 111 = .ok (.bipush 8, 2) := by decide +kernel
theorem dX12_starts_113 : decode cX12_starts 113 = .ok (.iload_n 1, 1) := by decide +kernel
theorem dX12_starts_114 : decode cX12_starts 114 = .ok (.imul, 1) := by decide +kernel
theorem dX12_starts_115 : decode cX12_starts 115 = .ok (.iload_n 2, 1) := by decide +kernel
theorem dX12_starts_116 : decode cX12_starts 116 = .ok (.iadd, 1) := by decide +kernel
theorem dX12_starts_117 : decode cX12_starts 117 = .ok (.iconst 0, 1) := by decide +kernel
theorem dX12_starts_118 : decode cX12_starts 118 = .ok (.iastore, 1) := by decide +kernel
theorem dX12_starts_119 : decode cX12_starts 119 = .ok (.aload_n 0, 1) := by decide +kernel
theorem dX12_starts_120 : decode cX12_starts 120 = .ok (.getfield 96, 3) := by decide +kernel
theorem dX12_starts_123 : decode cX12_starts 123 = .ok (.bipush 8, 2) := by decide +kernel
theorem dX12_starts_125 : decode cX12_starts 125 = .ok (.iload_n 1, 1) := by decide +kernel
theorem dX12_starts_126 : decode cX12_starts 126 = .ok (.imul, 1) := by decide +kernel
theorem dX12_starts_127 : decode cX12_starts 127 = .ok (.iload_n 2, 1) := by decide +kernel
theorem dX12_starts_128 : decode cX12_starts 128 = .ok (.iadd, 1) := by decide +kernel
theorem dX12_starts_129 : decode cX12_starts 129 = .ok (.iconst (-1), 1) := by decide +kernel
theorem dX12_starts_130 : decode cX12_starts 130 = .ok (.iastore, 1) := by decide +kernel
theorem dX12_starts_131 : decode cX12_starts 131 = .ok (.iinc 2 1, 3) := by decide +kernel
theorem dX12_starts_134 : decode cX12_starts 134 = .ok (.goto (-45), 3) := by decide +kernel
theorem dX12_starts_137 : decode cX12_starts 137 = .ok (.return_, 1) := by decide +kernel
theorem dX12_takes_0 : decode cX12_takes 0 = .ok (.aload_n 0, 1) := by decide +kernel
theorem dX12_takes_1 : decode cX12_takes 1 = .ok (.getfield 63, 3) := by decide +kernel
theorem dX12_takes_4 : decode cX12_takes 4 = .ok (.iload_n 1, 1) := by decide +kernel
theorem dX12_takes_5 : decode cX12_takes 5 = .ok (.aload_n 0, 1) := by decide +kernel
theorem dX12_takes_6 : decode cX12_takes 6 = .ok (.getfield 63, 3) := by decide +kernel
theorem dX12_takes_9 : decode cX12_takes 9 = .ok (.iload_n 2, 1) := by decide +kernel
theorem dX12_takes_10 : decode cX12_takes 10 = .ok (.iaload, 1) := by decide +kernel
theorem dX12_takes_11 : decode cX12_takes 11 = .ok (.iastore, 1) := by decide +kernel
theorem dX12_takes_12 : decode cX12_takes 12 = .ok (.aload_n 0, 1) := by decide +kernel
theorem dX12_takes_13 : decode cX12_takes 13 = .ok (.getfield 66, 3) := by decide +kernel
theorem dX12_takes_16 : decode cX12_takes 16 = .ok (.iload_n 1, 1) := by decide +kernel
theorem dX12_takes_17 : decode cX12_takes 17 = .ok (.aload_n 0, 1) := by decide +kernel
theorem dX12_takes_18 : decode cX12_takes 18 = .ok (.getfield 66, 3) := by decide +kernel
theorem dX12_takes_21 : decode cX12_takes 21 = .ok (.iload_n 2, 1) := by decide +kernel
theorem dX12_takes_22 : decode cX12_takes 22 = .ok (.iaload, 1) := by decide +kernel
theorem dX12_takes_23 : decode cX12_takes 23 = .ok (.iastore, 1) := by decide +kernel
theorem dX12_takes_24 : decode cX12_takes 24 = .ok (.aload_n 0, 1) := by decide +kernel
theorem dX12_takes_25 : decode cX12_takes 25 = .ok (.getfield 69, 3) := by decide +kernel
theorem dX12_takes_28 : decode cX12_takes 28 = .ok (.iload_n 1, 1) := by decide +kernel
theorem dX12_takes_29 : decode cX12_takes 29 = .ok (.aload_n 0, 1) := by decide +kernel
theorem dX12_takes_30 : decode cX12_takes 30 = .ok (.getfield 69, 3) := by decide +kernel
theorem dX12_takes_33 : decode cX12_takes 33 = .ok (.iload_n 2, 1) := by decide +kernel
theorem dX12_takes_34 : decode cX12_takes 34 = .ok (.iaload, 1) := by decide +kernel
theorem dX12_takes_35 : decode cX12_takes 35 = .ok (.iastore, 1) := by decide +kernel
theorem dX12_takes_36 : decode cX12_takes 36 = .ok (.aload_n 0, 1) := by decide +kernel
theorem dX12_takes_37 : decode cX12_takes 37 = .ok (.getfield 72, 3) := by decide +kernel
theorem dX12_takes_40 : decode cX12_takes 40 = .ok (.iload_n 1, 1) := by decide +kernel
theorem dX12_takes_41 : decode cX12_takes 41 = .ok (.aload_n 0, 1) := by decide +kernel
theorem dX12_takes_42 : decode cX12_takes 42 = .ok (.getfield 72, 3) := by decide +kernel
theorem dX12_takes_45 : decode cX12_takes 45 = .ok (.iload_n 2, 1) := by decide +kernel
theorem dX12_takes_46 : decode cX12_takes 46 = .ok (.iaload, 1) := by decide +kernel
theorem dX12_takes_47 : decode cX12_takes 47 = .ok (.iastore, 1) := by decide +kernel
theorem dX12_takes_48 : decode cX12_takes 48 = .ok (.aload_n 0, 1) := by decide +kernel
theorem dX12_takes_49 : decode cX12_takes 49 = .ok (.getfield 75, 3) := by decide +kernel
theorem dX12_takes_52 : decode cX12_takes 52 = .ok (.iload_n 1, 1) := by decide +kernel
theorem dX12_takes_53 : decode cX12_takes 53 = .ok (.aload_n 0, 1) := by decide +kernel
theorem dX12_takes_54 : decode cX12_takes 54 = .ok (.getfield 75, 3) := by decide +kernel
theorem dX12_takes_57 : decode cX12_takes 57 = .ok (.iload_n 2, 1) := by decide +kernel
theorem dX12_takes_58 : decode cX12_takes 58 = .ok (.iaload, 1) := by decide +kernel
theorem dX12_takes_59 : decode cX12_takes 59 = .ok (.iastore, 1) := by decide +kernel
theorem dX12_takes_60 : decode cX12_takes 60 = .ok (.aload_n 0, 1) := by decide +kernel
theorem dX12_takes_61 : decode cX12_takes 61 = .ok (.getfield 78, 3) := by decide +kernel
theorem dX12_takes_64 : decode cX12_takes 64 = .ok (.iload_n 1, 1) := by decide +kernel
theorem dX12_takes_65 : decode cX12_takes 65 = .ok (.aload_n 0, 1) := by decide +kernel
theorem dX12_takes_66 : decode cX12_takes 66 = .ok (.getfield 78, 3) := by decide +kernel
theorem dX12_takes_69 : decode cX12_takes 69 = .ok (.iload_n 2, 1) := by decide +kernel
theorem dX12_takes_70 : decode cX12_takes 70 = .ok (.iaload, 1) := by decide +kernel
theorem dX12_takes_71 : decode cX12_takes 71 = .ok (.iastore, 1) := by decide +kernel
theorem dX12_takes_72 : decode cX12_takes 72 = .ok (.aload_n 0, 1) := by decide +kernel
theorem dX12_takes_73 : decode cX12_takes 73 = .ok (.getfield 81, 3) := by decide +kernel
theorem dX12_takes_76 : decode cX12_takes 76 = .ok (.iload_n 1, 1) := by decide +kernel
theorem dX12_takes_77 : decode cX12_takes 77 = .ok (.aload_n 0, 1) := by decide +kernel
theorem dX12_takes_78 : decode cX12_takes 78 = .ok (.getfield 81, 3) := by decide +kernel
theorem dX12_takes_81 : decode cX12_takes 81 = .ok (.iload_n 2, 1) := by decide +kernel
theorem dX12_takes_82 : decode cX12_takes 82 = .ok (.iaload, 1) := by decide +kernel
theorem dX12_takes_83 : decode cX12_takes 83 = .ok (.iastore, 1) := by decide +kernel
theorem dX12_takes_84 : decode cX12_takes 84 = .ok (.aload_n 0, 1) := by decide +kernel
theorem dX12_takes_85 : decode cX12_takes 85 = .ok (.getfield 84, 3) := by decide +kernel
theorem dX12_takes_88 : decode cX12_takes 88 = .ok (.iload_n 1, 1) := by decide +kernel
theorem dX12_takes_89 : decode cX12_takes 89 = .ok (.aload_n 0, 1) := by decide +kernel
theorem dX12_takes_90 : decode cX12_takes 90 = .ok (.getfield 84, 3) := by decide +kernel
theorem dX12_takes_93 : decode cX12_takes 93 = .ok (.iload_n 2, 1) := by decide +kernel
theorem dX12_takes_94 : decode cX12_takes 94 = .ok (.iaload, 1) := by decide +kernel
theorem dX12_takes_95 : decode cX12_takes 95 = .ok (.iastore, 1) := by decide +kernel
theorem dX12_takes_96 : decode cX12_takes 96 = .ok (.aload_n 0, 1) := by decide +kernel
theorem dX12_takes_97 : decode cX12_takes 97 = .ok (.getfield 87, 3) := by decide +kernel
theorem dX12_takes_100 : decode cX12_takes 100 = .ok (.iload_n 1, 1) := by decide +kernel
theorem dX12_takes_101 : decode cX12_takes 101 = .ok (.aload_n 0, 1) := by decide +kernel
theorem dX12_takes_102 : decode cX12_takes 102 = .ok (.getfield 87, 3) := by decide +kernel
theorem dX12_takes_105 : decode cX12_takes 105 = .ok (.iload_n 2, 1) := by decide +kernel
theorem dX12_takes_106 : decode cX12_takes 106 = .ok (.iaload, 1) := by decide +kernel
theorem dX12_takes_107 : decode cX12_takes 107 = .ok (.iastore, 1) := by decide +kernel
theorem dX12_takes_108 : decode cX12_takes 108 = .ok (.iconst 0, 1) := by decide +kernel
theorem dX12_takes_109 : decode cX12_takes 109 = .ok (.istore_n 3, 1) := by decide +kernel
theorem dX12_takes_110 : decode cX12_takes 110 = .ok (.iload_n 3, 1) := by decide +kernel
theorem dX12_takes_111 : decode cX12_takes 111 = .ok (.bipush 8, 2) := by decide +kernel
theorem dX12_takes_113 : decode cX12_takes 113 = .ok (.if_icmp .ge 75, 3) := by decide +kernel
theorem dX12_takes_116 : decode cX12_takes 116 = .ok (.aload_n 0, 1) := by decide +kernel
theorem dX12_takes_117 : decode cX12_takes 117 = .ok (.getfield 90, 3) := by decide +kernel
theorem dX12_takes_120 : decode cX12_takes 120 = .ok (.bipush 8, 2) := by decide +kernel
theorem dX12_takes_122 : decode cX12_takes 122 = .ok (.iload_n 1, 1) := by decide +kernel
theorem dX12_takes_123 : decode cX12_takes 123 = .ok (.imul, 1) := by decide +kernel
theorem dX12_takes_124 : decode cX12_takes 124 = .ok (.iload_n 3, 1) := by decide +kernel
theorem dX12_takes_125 : decode cX12_takes 125 = .ok (.iadd, 1) := by decide +kernel
theorem dX12_takes_126 : decode cX12_takes 126 = .ok (.aload_n 0, 1) := by decide +kernel
theorem dX12_takes_127 : decode cX12_takes 127 = .ok (.getfield 90, 3) := by decide +kernel
theorem dX12_takes_130 : decode cX12_takes 130 = .ok (.bipush 8, 2) := by decide +kernel
theorem dX12_takes_132 : decode cX12_takes 132 = .ok (.iload_n 2, 1) := by decide +kernel
theorem dX12_takes_133 : decode cX12_takes 133 = .ok (.imul, 1) := by decide +kernel
theorem dX12_takes_134 : decode cX12_takes 134 = .ok (.iload_n 3, 1) := by decide +kernel
theorem dX12_takes_135 : decode cX12_takes 135 = .ok (.iadd, 1) := by decide +kernel
theorem dX12_takes_136 : decode cX12_takes 136 = .ok (.iaload, 1) := by decide +kernel
theorem dX12_takes_137 : decode cX12_takes 137 = .ok (.iastore, 1) := by decide +kernel
theorem dX12_takes_138 : decode cX12_takes 138 = .ok (.aload_n 0, 1) := by decide +kernel
theorem dX12_takes_139 : decode cX12_takes 139 = .ok (.getfield 93, 3) := by decide +kernel
theorem dX12_takes_142 : decode cX12_takes 142 = .ok (.bipush 8, 2) := by decide +kernel
theorem dX12_takes_144 : decode cX12_takes 144 = .ok (.iload_n 1, 1) := by decide +kernel
theorem dX12_takes_145 : decode cX12_takes 145 = .ok (.imul, 1) := by decide +kernel
theorem dX12_takes_146 : decode cX12_takes 146 = .ok (.iload_n 3, 1) := by decide +kernel
theorem dX12_takes_147 : decode cX12_takes 147 = .ok (.iadd, 1) := by decide +kernel
theorem dX12_takes_148 : decode cX12_takes 148 = .ok (.aload_n 0, 1) := by decide +kernel
theorem dX12_takes_149 : decode cX12_takes 149 = .ok (.getfield 93, 3) := by decide +kernel
theorem dX12_takes_152 : decode cX12_takes 152 = .ok (.bipush 8, 2) := by decide +kernel
theorem dX12_takes_154 : decode cX12_takes 154 = .ok (.iload_n 2, 1) := by decide +kernel
theorem dX12_takes_155 : decode cX12_takes 155 = .ok (.imul, 1) := by decide +kernel
theorem dX12_takes_156 : decode cX12_takes 156 = .ok (.iload_n 3, 1) := by decide +kernel
theorem dX12_takes_157 : decode cX12_takes 157 = .ok (.iadd, 1) := by decide +kernel
theorem dX12_takes_158 : decode cX12_takes 158 = .ok (.iaload, 1) := by decide +kernel
theorem dX12_takes_159 : decode cX12_takes 159 = .ok (.iastore, 1) := by decide +kernel
theorem dX12_takes_160 : decode cX12_takes 160 = .ok (.aload_n 0, 1) := by decide +kernel
theorem dX12_takes_161 : decode cX12_takes 161 = .ok (.getfield 96, 3) := by decide +kernel
theorem dX12_takes_164 : decode cX12_takes 164 = .ok (.bipush 8, 2) := by decide +kernel
theorem dX12_takes_166 : decode cX12_takes 166 = .ok (.iload_n 1, 1) := by decide +kernel
theorem dX12_takes_167 : decode cX12_takes 167 = .ok (.imul, 1) := by decide +kernel
theorem dX12_takes_168 : decode cX12_takes 168 = .ok (.iload_n 3, 1) := by decide +kernel
theorem dX12_takes_169 : decode cX12_takes 169 = .ok (.iadd, 1) := by decide +kernel
theorem dX12_takes_170 : decode cX12_takes 170 = .ok (.aload_n 0, 1) := by decide +kernel
theorem dX12_takes_171 : decode cX12_takes 171 = .ok (.getfield 96, 3) := by decide +kernel
theorem dX12_takes_174 : decode cX12_takes 174 = .ok (.bipush 8, 2) := by decide +kernel
theorem dX12_takes_176 : decode cX12_takes 176 = .ok (.iload_n 2, 1) := by decide +kernel
theorem dX12_takes_177 : decode cX12_takes 177 = .ok (.imul, 1) := by decide +kernel
theorem dX12_takes_178 : decode cX12_takes 178 = .ok (.iload_n 3, 1) := by decide +kernel
theorem dX12_takes_179 : decode cX12_takes 179 = .ok (.iadd, 1) := by decide +kernel
theorem dX12_takes_180 : decode cX12_takes 180 = .ok (.iaload, 1) := by decide +kernel
theorem dX12_takes_181 : decode cX12_takes 181 = .ok (.iastore, 1) := by decide +kernel
theorem dX12_takes_182 : decode cX12_takes 182 = .ok (.iinc 3 1, 3) := by decide +kernel
theorem dX12_takes_185 : decode cX12_takes 185 = .ok (.goto (-75), 3) := by decide +kernel
theorem dX12_takes_188 : decode cX12_takes 188 = .ok (.return_, 1) := by decide +kernel
theorem dX12_isBay_0 : decode cX12_isBay 0 = .ok (.iload_n 1, 1) := by decide +kernel
theorem dX12_isBay_1 : decode cX12_isBay 1 = .ok (.ifCond .lt 17, 3) := by decide +kernel
theorem dX12_isBay_4 : decode cX12_isBay 4 = .ok (.iload_n 1, 1) := by decide +kernel
theorem dX12_isBay_5 : decode cX12_isBay 5 = .ok (.aload_n 0, 1) := by decide +kernel
theorem dX12_isBay_6 : decode cX12_isBay 6 = .ok (.getfield 13, 3) := by decide +kernel
theorem dX12_isBay_9 : decode cX12_isBay 9 = .ok (.iconst 0, 1) := by decide +kernel
theorem dX12_isBay_10 : decode cX12_isBay 10 = .ok (.iaload, 1) := by decide +kernel
theorem dX12_isBay_11 : decode cX12_isBay 11 = .ok (.if_icmp .ge 7, 3) := by decide +kernel
theorem dX12_isBay_14 : decode cX12_isBay 14 = .ok (.iconst 1, 1) := by decide +kernel
theorem dX12_isBay_15 : decode cX12_isBay 15 = .ok (.goto 4, 3) := by decide +kernel
theorem dX12_isBay_18 : decode cX12_isBay 18 = .ok (.iconst 0, 1) := by decide +kernel
theorem dX12_isBay_19 : decode cX12_isBay 19 = .ok (.ireturn, 1) := by decide +kernel
theorem dX12_isDeed_0 : decode cX12_isDeed 0 = .ok (.iload_n 1, 1) := by decide +kernel
theorem dX12_isDeed_1 : decode cX12_isDeed 1 = .ok (.ifCond .lt 17, 3) := by decide +kernel
theorem dX12_isDeed_4 : decode cX12_isDeed 4 = .ok (.iload_n 1, 1) := by decide +kernel
theorem dX12_isDeed_5 : decode cX12_isDeed 5 = .ok (.aload_n 0, 1) := by decide +kernel
theorem dX12_isDeed_6 : decode cX12_isDeed 6 = .ok (.getfield 13, 3) := by decide +kernel
theorem dX12_isDeed_9 : decode cX12_isDeed 9 = .ok (.iconst 2, 1) := by decide +kernel
theorem dX12_isDeed_10 : decode cX12_isDeed 10 = .ok (.iaload, 1) := by decide +kernel
theorem dX12_isDeed_11 : decode cX12_isDeed 11 = .ok (.if_icmp .ge 7, 3) := by decide +kernel
theorem dX12_isDeed_14 : decode cX12_isDeed 14 = .ok (.iconst 1, 1) := by decide +kernel
theorem dX12_isDeed_15 : decode cX12_isDeed 15 = .ok (.goto 4, 3) := by decide +kernel
theorem dX12_isDeed_18 : decode cX12_isDeed 18 = .ok (.iconst 0, 1) := by decide +kernel
theorem dX12_isDeed_19 : decode cX12_isDeed 19 = .ok (.ireturn, 1) := by decide +kernel
theorem dX12_galeOf_0 : decode cX12_galeOf 0 = .ok (.aload_n 0, 1) := by decide +kernel
theorem dX12_galeOf_1 : decode cX12_galeOf 1 = .ok (.getfield 334, 3) := by decide +kernel
theorem dX12_galeOf_4 : decode cX12_galeOf 4 = .ok (.iconst 1, 1) := by decide +kernel
theorem dX12_galeOf_5 : decode cX12_galeOf 5 = .ok (.if_icmp .ne 5, 3) := by decide +kernel
theorem dX12_galeOf_8 : decode cX12_galeOf 8 = .ok (.iconst 0, 1) := by decide +kernel
theorem dX12_galeOf_9 : decode cX12_galeOf 9 = .ok (.ireturn, 1) := by decide +kernel
theorem dX12_galeOf_10 : decode cX12_galeOf 10 = .ok (.aload_n 0, 1) := by decide +kernel
theorem dX12_galeOf_11 : decode cX12_galeOf 11 = .ok (.getfield 105, 3) := by decide +kernel
theorem dX12_galeOf_14 : decode cX12_galeOf 14 = .ok (.iconst (-1), 1) := by decide +kernel
theorem dX12_galeOf_15 : decode cX12_galeOf 15 = .ok (.if_icmp .eq 10, 3) := by decide +kernel
theorem dX12_galeOf_18 : decode cX12_galeOf 18 = .ok (.aload_n 0, 1) := by decide +kernel
theorem dX12_galeOf_19 : decode cX12_galeOf 19 = .ok (.getfield 105, 3) := by decide +kernel
theorem dX12_galeOf_22 : decode cX12_galeOf 22 = .ok (.goto 23, 3) := by decide +kernel
theorem dX12_galeOf_25 : decode cX12_galeOf 25 = .ok (.iload_n 1, 1) := by decide +kernel
theorem dX12_galeOf_26 : decode cX12_galeOf 26 = .ok (.aload_n 0, 1) := by decide +kernel
theorem dX12_galeOf_27 : decode cX12_galeOf 27 = .ok (.getfield 13, 3) := by decide +kernel
theorem dX12_galeOf_30 : decode cX12_galeOf 30 = .ok (.iconst 3, 1) := by decide +kernel
theorem dX12_galeOf_31 : decode cX12_galeOf 31 = .ok (.iaload, 1) := by decide +kernel
theorem dX12_galeOf_32 : decode cX12_galeOf 32 = .ok (.if_icmp .ge 12, 3) := by decide +kernel
theorem dX12_galeOf_35 : decode cX12_galeOf 35 = .ok (.aload_n 0, 1) := by decide +kernel
theorem dX12_galeOf_36 : decode cX12_galeOf 36 = .ok (.getfield 37, 3) := by decide +kernel
theorem dX12_galeOf_39 : decode cX12_galeOf 39 = .ok (.iload_n 1, 1) := by decide +kernel
theorem dX12_galeOf_40 : decode cX12_galeOf 40 = .ok (.iaload, 1) := by decide +kernel
theorem dX12_galeOf_41 : decode cX12_galeOf 41 = .ok (.goto 4, 3) := by decide +kernel
theorem dX12_galeOf_44 : decode cX12_galeOf 44 = .ok (.iconst 0, 1) := by decide +kernel
theorem dX12_galeOf_45 : decode cX12_galeOf 45 = .ok (.ireturn, 1) := by decide +kernel
theorem dX12_joyIn_0 : decode cX12_joyIn 0 = .ok (.aload_n 0, 1) := by decide +kernel
theorem dX12_joyIn_1 : decode cX12_joyIn 1 = .ok (.getfield 334, 3) := by decide +kernel
theorem dX12_joyIn_4 : decode cX12_joyIn 4 = .ok (.iconst 3, 1) := by decide +kernel
theorem dX12_joyIn_5 : decode cX12_joyIn 5 = .ok (.if_icmp .ne 8, 3) := by decide +kernel
theorem dX12_joyIn_8 : decode cX12_joyIn 8 = .ok (.bipush 9, 2) := by decide +kernel
theorem dX12_joyIn_10 : decode cX12_joyIn 10 = .ok (.goto 24, 3) := by decide +kernel
theorem dX12_joyIn_13 : decode cX12_joyIn 13 = .ok (.iload_n 1, 1) := by decide +kernel
theorem dX12_joyIn_14 : decode cX12_joyIn 14 = .ok (.aload_n 0, 1) := by decide +kernel
theorem dX12_joyIn_15 : decode cX12_joyIn 15 = .ok (.getfield 102, 3) := by decide +kernel
theorem dX12_joyIn_18 : decode cX12_joyIn 18 = .ok (.if_icmp .ne 10, 3) := by decide +kernel
theorem dX12_joyIn_21 : decode cX12_joyIn 21 = .ok (.aload_n 0, 1) := by decide +kernel
theorem dX12_joyIn_22 : decode cX12_joyIn 22 = .ok (.getfield 337, 3) := by decide +kernel
theorem dX12_joyIn_25 : decode cX12_joyIn 25 = .ok (.goto 9, 3) := by decide +kernel
theorem dX12_joyIn_28 : decode cX12_joyIn 28 = .ok (.aload_n 0, 1) := by decide +kernel
theorem dX12_joyIn_29 : decode cX12_joyIn 29 = .ok (.getfield 34, 3) := by decide +kernel
theorem dX12_joyIn_32 : decode cX12_joyIn 32 = .ok (.iload_n 1, 1) := by decide +kernel
theorem dX12_joyIn_33 : decode cX12_joyIn 33 = .ok (.iaload, 1) := by decide +kernel
theorem dX12_joyIn_34 : decode cX12_joyIn 34 = .ok (.ireturn, 1) := by decide +kernel
set_option maxRecDepth 20000 in
theorem ggX12_calls_X12_galeOf : GoodIn wsX12_calls wsX12_galeOf := goodIn_r _ [10, 11, 12, 13, 14, 15, 16, 17, 18, 19, 20, 21, 22, 23, 24, 25, 26, 27, 28, 29, 30, 31, 32, 33, 34, 35, 36, 37, 38, 39, 40, 41, 42, 43, 44, 45, 46, 47, 48, 49, 50, 51, 52, 53, 54, 55, 56, 57, 58, 59, 60, 61, 62, 63, 64, 65, 66, 67, 68, 69, 70, 71, 72, 73, 74, 75, 76, 77, 78, 79, 80] rfl (by decide +kernel)
set_option maxRecDepth 20000 in
theorem gX12_calls_X12_galeOf : GoodIn wsX12_calls (wsV RX12 343 RX12 yX12_galeOf wsX12_galeOf) := goodIn_app (goodIn_r _ [6, 7, 8, 9] rfl (by decide +kernel)) ggX12_calls_X12_galeOf
theorem dX12_calls_0 : decode cX12_calls 0 = .ok (.iload_n 3, 1) := by decide +kernel
theorem dX12_calls_1 : decode cX12_calls 1 = .ok (.iconst (-1), 1) := by decide +kernel
theorem dX12_calls_2 : decode cX12_calls 2 = .ok (.if_icmp .ne 8, 3) := by decide +kernel
theorem dX12_calls_5 : decode cX12_calls 5 = .ok (.bipush 99, 2) := by decide +kernel
theorem dX12_calls_7 : decode cX12_calls 7 = .ok (.goto 12, 3) := by decide +kernel
theorem dX12_calls_10 : decode cX12_calls 10 = .ok (.bipush 99, 2) := by decide +kernel
theorem dX12_calls_12 : decode cX12_calls 12 = .ok (.iload 4, 2) := by decide +kernel
theorem dX12_calls_14 : decode cX12_calls 14 = .ok (.iload_n 3, 1) := by decide +kernel
theorem dX12_calls_15 : decode cX12_calls 15 = .ok (.isub, 1) := by decide +kernel
theorem dX12_calls_16 : decode cX12_calls 16 = .ok (.invokestatic 340, 3) := by decide +kernel
theorem dX12_calls_19 : decode cX12_calls 19 = .ok (.istore 7, 2) := by decide +kernel
theorem dX12_calls_21 : decode cX12_calls 21 = .ok (.aload_n 0, 1) := by decide +kernel
theorem dX12_calls_22 : decode cX12_calls 22 = .ok (.getfield 56, 3) := by decide +kernel
theorem dX12_calls_25 : decode cX12_calls 25 = .ok (.iconst 0, 1) := by decide +kernel
theorem dX12_calls_26 : decode cX12_calls 26 = .ok (.iload_n 1, 1) := by decide +kernel
theorem dX12_calls_27 : decode cX12_calls 27 = .ok (.i2l, 1) := by decide +kernel
theorem dX12_calls_28 : decode cX12_calls 28 = .ok (.lastore, 1) := by decide +kernel
theorem dX12_calls_29 : decode cX12_calls 29 = .ok (.aload_n 0, 1) := by decide +kernel
theorem dX12_calls_30 : decode cX12_calls 30 = .ok (.getfield 56, 3) := by decide +kernel
theorem dX12_calls_33 : decode cX12_calls 33 = .ok (.iconst 1, 1) := by decide +kernel
theorem dX12_calls_34 : decode cX12_calls 34 = .ok (.iload 7, 2) := by decide +kernel
theorem dX12_calls_36 : decode cX12_calls 36 = .ok (.i2l, 1) := by decide +kernel
theorem dX12_calls_37 : decode cX12_calls 37 = .ok (.lastore, 1) := by decide +kernel
theorem dX12_calls_38 : decode cX12_calls 38 = .ok (.aload_n 0, 1) := by decide +kernel
theorem dX12_calls_39 : decode cX12_calls 39 = .ok (.getfield 56, 3) := by decide +kernel
theorem dX12_calls_42 : decode cX12_calls 42 = .ok (.iconst 2, 1) := by decide +kernel
theorem dX12_calls_43 : decode cX12_calls 43 = .ok (.iload_n 2, 1) := by decide +kernel
theorem dX12_calls_44 : decode cX12_calls 44 = .ok (.i2l, 1) := by decide +kernel
theorem dX12_calls_45 : decode cX12_calls 45 = .ok (.lastore, 1) := by decide +kernel
theorem dX12_calls_46 : decode cX12_calls 46 = .ok (.aload_n 0, 1) := by decide +kernel
theorem dX12_calls_47 : decode cX12_calls 47 = .ok (.getfield 56, 3) := by decide +kernel
theorem dX12_calls_50 : decode cX12_calls 50 = .ok (.iconst 3, 1) := by decide +kernel
theorem dX12_calls_51 : decode cX12_calls 51 = .ok (.aload_n 0, 1) := by decide +kernel
theorem dX12_calls_52 : decode cX12_calls 52 = .ok (.iload 4, 2) := by decide +kernel
theorem dX12_calls_54 : decode cX12_calls 54 = .ok (.invokevirtual 343, 3) := by decide +kernel
theorem dX12_calls_57 : decode cX12_calls 57 = .ok (.i2l, 1) := by decide +kernel
theorem dX12_calls_58 : decode cX12_calls 58 = .ok (.lastore, 1) := by decide +kernel
theorem dX12_calls_59 : decode cX12_calls 59 = .ok (.aload_n 0, 1) := by decide +kernel
theorem dX12_calls_60 : decode cX12_calls 60 = .ok (.getfield 56, 3) := by decide +kernel
theorem dX12_calls_63 : decode cX12_calls 63 = .ok (.iconst 4, 1) := by decide +kernel
theorem dX12_calls_64 : decode cX12_calls 64 = .ok (.iload 4, 2) := by decide +kernel
theorem dX12_calls_66 : decode cX12_calls 66 = .ok (.i2l, 1) := by decide +kernel
theorem dX12_calls_67 : decode cX12_calls 67 = .ok (.lastore, 1) := by decide +kernel
theorem dX12_calls_68 : decode cX12_calls 68 = .ok (.aload_n 0, 1) := by decide +kernel
theorem dX12_calls_69 : decode cX12_calls 69 = .ok (.getfield 56, 3) := by decide +kernel
theorem dX12_calls_72 : decode cX12_calls 72 = .ok (.iconst 5, 1) := by decide +kernel
theorem dX12_calls_73 : decode cX12_calls 73 = .ok (.iload 5, 2) := by decide +kernel
theorem dX12_calls_75 : decode cX12_calls 75 = .ok (.i2l, 1) := by decide +kernel
theorem dX12_calls_76 : decode cX12_calls 76 = .ok (.lastore, 1) := by decide +kernel
theorem dX12_calls_77 : decode cX12_calls 77 = .ok (.aload_n 0, 1) := by decide +kernel
theorem dX12_calls_78 : decode cX12_calls 78 = .ok (.getfield 56, 3) := by decide +kernel
theorem dX12_calls_81 : decode cX12_calls 81 = .ok (.bipush 6, 2) := by decide +kernel
theorem dX12_calls_83 : decode cX12_calls 83 = .ok (.iload 6, 2) := by decide +kernel
theorem dX12_calls_85 : decode cX12_calls 85 = .ok (.i2l, 1) := by decide +kernel
theorem dX12_calls_86 : decode cX12_calls 86 = .ok (.lastore, 1) := by decide +kernel
theorem dX12_calls_87 : decode cX12_calls 87 = .ok (.return_, 1) := by decide +kernel
set_option maxRecDepth 20000 in
theorem ggX12_moodBy_X12_calls : GoodIn wsX12_moodBy wsX12_calls := goodIn_r _ [16, 17, 18, 6, 19, 3, 20, 21, 22, 15, 23, 24, 25, 26, 27, 53, 54, 55, 56, 57, 58, 59, 60, 61, 62, 63, 64, 65, 66, 67, 68, 69, 70, 71, 72, 73, 74, 75, 76, 77, 78, 79, 80, 81, 82, 83, 84, 85, 86, 87, 88, 89, 90, 91, 92, 93, 94, 95, 96, 97, 98, 99, 100, 101, 102, 103, 104, 105, 106, 107, 108, 109, 110, 111, 112, 113, 114, 115, 116, 117, 118] rfl (by decide +kernel)
set_option maxRecDepth 20000 in
theorem gX12_moodBy_X12_calls : GoodIn wsX12_moodBy (wsV RX12 346 RX12 yX12_calls wsX12_calls) := goodIn_app (goodIn_r _ [12, 13, 14, 15] rfl (by decide +kernel)) ggX12_moodBy_X12_calls
set_option maxRecDepth 20000 in
theorem ggX12_moodBy_X12_hasLaw : GoodIn wsX12_moodBy wsX12_hasLaw := goodIn_r _ [31, 32, 33, 53, 54, 55, 56, 57, 58, 59, 60, 61, 62, 63, 64, 65, 66, 67, 68, 69, 70, 71, 72, 73, 74, 75, 76, 77, 78, 79, 80, 81, 82, 83, 84, 85, 86, 87, 88, 89, 90, 91, 92, 93, 94, 95, 96, 97, 98, 99, 100, 101, 102, 103, 104, 105, 106, 107, 108, 109, 110, 111, 112, 113, 114, 115, 116, 117, 118] rfl (by decide +kernel)
set_option maxRecDepth 20000 in
theorem gX12_moodBy_X12_hasLaw : GoodIn wsX12_moodBy (wsV RX12 360 RX12 yX12_hasLaw wsX12_hasLaw) := goodIn_app (goodIn_r _ [28, 29, 30, 15] rfl (by decide +kernel)) ggX12_moodBy_X12_hasLaw
set_option maxRecDepth 20000 in
theorem ggX12_moodBy_X12_goes : GoodIn wsX12_moodBy wsX12_goes := goodIn_r _ [37, 38, 33, 32, 39, 40, 11, 3, 41, 42, 43, 15, 44, 45, 46, 6, 47, 48, 49, 50, 51, 52, 53, 54, 55, 56, 57, 58, 59, 60, 61, 62, 63, 64, 65, 66, 67, 68, 69, 70, 71, 72, 73, 74, 75, 76, 77, 78, 79, 80, 81, 82, 83, 84, 85, 86, 87, 88, 89, 90, 91, 92, 93, 94, 95, 96, 97, 98, 99, 100, 101, 102, 103, 104, 105, 106, 107, 108, 109, 110, 111, 112, 113, 114, 115, 116, 117, 118] rfl (by decide +kernel)
set_option maxRecDepth 20000 in
theorem gX12_moodBy_X12_goes : GoodIn wsX12_moodBy (wsV RX12 363 RX12 yX12_goes wsX12_goes) := goodIn_app (goodIn_r _ [34, 35, 36, 15] rfl (by decide +kernel)) ggX12_moodBy_X12_goes
theorem dX12_moodBy_0 : decode cX12_moodBy 0 = .ok (.aload_n 0, 1) := by decide +kernel
theorem dX12_moodBy_1 : decode cX12_moodBy 1 = .ok (.iload_n 1, 1) := by decide +kernel
theorem dX12_moodBy_2 : decode cX12_moodBy 2 = .ok (.iload_n 2, 1) := by decide +kernel
theorem dX12_moodBy_3 : decode cX12_moodBy 3 = .ok (.iload_n 3, 1) := by decide +kernel
theorem dX12_moodBy_4 : decode cX12_moodBy 4 = .ok (.iload 4, 2) := by decide +kernel
theorem dX12_moodBy_6 : decode cX12_moodBy 6 = .ok (.iconst 0, 1) := by decide +kernel
theorem dX12_moodBy_7 : decode cX12_moodBy 7 = .ok (.iload 5, 2) := by decide +kernel
theorem dX12_moodBy_9 : decode cX12_moodBy 9 = .ok (.invokevirtual 346, 3) := by decide +kernel
theorem dX12_moodBy_12 : decode cX12_moodBy 12 = .ok (.lconst 0, 1) := by decide +kernel
theorem dX12_moodBy_13 : decode cX12_moodBy 13 = .ok (.ldc2_w 350, 3) := by decide +kernel
theorem dX12_moodBy_16 : decode cX12_moodBy 16 = .ok (.ldc2_w 352, 3) := by decide +kernel
theorem dX12_moodBy_19 : decode cX12_moodBy 19 = .ok (.iload_n 1, 1) := by decide +kernel
theorem dX12_moodBy_20 : decode cX12_moodBy 20 = .ok (.i2l, 1) := by decide +kernel
theorem dX12_moodBy_21 : decode cX12_moodBy 21 = .ok (.lmul, 1) := by decide +kernel
theorem dX12_moodBy_22 : decode cX12_moodBy 22 = .ok (.aload_n 0, 1) := by decide +kernel
theorem dX12_moodBy_23 : decode cX12_moodBy 23 = .ok (.getfield 56, 3) := by decide +kernel
theorem dX12_moodBy_26 : decode cX12_moodBy 26 = .ok (.iconst 1, 1) := by decide +kernel
theorem dX12_moodBy_27 : decode cX12_moodBy 27 = .ok (.laload, 1) := by decide +kernel
theorem dX12_moodBy_28 : decode cX12_moodBy 28 = .ok (.lsub, 1) := by decide +kernel
theorem dX12_moodBy_29 : decode cX12_moodBy 29 = .ok (.invokestatic 354, 3) := by decide +kernel
theorem dX12_moodBy_32 : decode cX12_moodBy 32 = .ok (.invokestatic 357, 3) := by decide +kernel
theorem dX12_moodBy_35 : decode cX12_moodBy 35 = .ok (.l2i, 1) := by decide +kernel
theorem dX12_moodBy_36 : decode cX12_moodBy 36 = .ok (.istore 6, 2) := by decide +kernel
theorem dX12_moodBy_38 : decode cX12_moodBy 38 = .ok (.aload_n 0, 1) := by decide +kernel
theorem dX12_moodBy_39 : decode cX12_moodBy 39 = .ok (.iconst 0, 1) := by decide +kernel
theorem dX12_moodBy_40 : decode cX12_moodBy 40 = .ok (.invokevirtual 360, 3) := by decide +kernel
theorem dX12_moodBy_43 : decode cX12_moodBy 43 = .ok (.ifCond .eq 11, 3) := by decide +kernel
theorem dX12_moodBy_46 : decode cX12_moodBy 46 = .ok (.aload_n 0, 1) := by decide +kernel
theorem dX12_moodBy_47 : decode cX12_moodBy 47 = .ok (.iconst 0, 1) := by decide +kernel
theorem dX12_moodBy_48 : decode cX12_moodBy 48 = .ok (.invokevirtual 363, 3) := by decide +kernel
theorem dX12_moodBy_51 : decode cX12_moodBy 51 = .ok (.ifCond .ne 6, 3) := by decide +kernel
theorem dX12_moodBy_54 : decode cX12_moodBy 54 = .ok (.iload 6, 2) := by decide +kernel
theorem dX12_moodBy_56 : decode cX12_moodBy 56 = .ok (.ireturn, 1) := by decide +kernel
theorem dX12_moodBy_57 : decode cX12_moodBy 57 = .ok (.lconst 0, 1) := by decide +kernel
theorem dX12_moodBy_58 : decode cX12_moodBy 58 = .ok (.ldc2_w 350, 3) := by decide +kernel
theorem dX12_moodBy_61 : decode cX12_moodBy 61 = .ok (.aload_n 0, 1) := by decide +kernel
theorem dX12_moodBy_62 : decode cX12_moodBy 62 = .ok (.getfield 60, 3) := by decide +kernel
theorem dX12_moodBy_65 : decode cX12_moodBy 65 = .ok (.iconst 0, 1) := by decide +kernel
theorem dX12_moodBy_66 : decode cX12_moodBy 66 = .ok (.laload, 1) := by decide +kernel
theorem dX12_moodBy_67 : decode cX12_moodBy 67 = .ok (.invokestatic 354, 3) := by decide +kernel
theorem dX12_moodBy_70 : decode cX12_moodBy 70 = .ok (.invokestatic 357, 3) := by decide +kernel
theorem dX12_moodBy_73 : decode cX12_moodBy 73 = .ok (.l2i, 1) := by decide +kernel
theorem dX12_moodBy_74 : decode cX12_moodBy 74 = .ok (.ireturn, 1) := by decide +kernel
set_option maxRecDepth 20000 in
theorem ggX12_holdsBy_X12_moodBy : GoodIn wsX12_holdsBy wsX12_moodBy := goodIn_r _ [6, 7, 8, 9, 10, 11, 12, 13, 14, 15, 16, 1, 17, 18, 19, 5, 20, 21, 22, 23, 24, 25, 26, 27, 28, 29, 30, 31, 32, 33, 34, 35, 36, 37, 38, 39, 40, 41, 42, 43, 44, 45, 46, 47, 48, 49, 50, 51, 52, 53, 54, 55, 56, 57, 58, 59, 60, 61, 62, 63, 64, 65, 66, 67, 68, 69, 70, 71, 72, 73, 74, 75, 76, 77, 78, 79, 80, 81, 82, 83, 84, 85, 86, 87, 88, 89, 90, 91, 92, 93, 94, 95, 96, 97, 98, 99, 100, 101, 102, 103, 104, 105, 106, 107, 108, 109, 110, 111, 112, 113, 114, 115, 116, 117, 118, 119, 120, 121, 122] rfl (by decide +kernel)
set_option maxRecDepth 20000 in
theorem gX12_holdsBy_X12_moodBy : GoodIn wsX12_holdsBy (wsV RX12 366 RX12 yX12_moodBy wsX12_moodBy) := goodIn_app (goodIn_r _ [2, 3, 4, 5] rfl (by decide +kernel)) ggX12_holdsBy_X12_moodBy
set_option maxRecDepth 20000 in
theorem ggX12_holdsBy_X12_calls : GoodIn wsX12_holdsBy wsX12_calls := goodIn_r _ [20, 21, 22, 12, 23, 9, 24, 25, 26, 5, 27, 28, 29, 30, 31, 57, 58, 59, 60, 61, 62, 63, 64, 65, 66, 67, 68, 69, 70, 71, 72, 73, 74, 75, 76, 77, 78, 79, 80, 81, 82, 83, 84, 85, 86, 87, 88, 89, 90, 91, 92, 93, 94, 95, 96, 97, 98, 99, 100, 101, 102, 103, 104, 105, 106, 107, 108, 109, 110, 111, 112, 113, 114, 115, 116, 117, 118, 119, 120, 121, 122] rfl (by decide +kernel)
set_option maxRecDepth 20000 in
theorem gX12_holdsBy_X12_calls : GoodIn wsX12_holdsBy (wsV RX12 346 RX12 yX12_calls wsX12_calls) := goodIn_app (goodIn_r _ [17, 18, 19, 5] rfl (by decide +kernel)) ggX12_holdsBy_X12_calls
set_option maxRecDepth 20000 in
theorem ggX12_holdsBy_X12_hasLaw : GoodIn wsX12_holdsBy wsX12_hasLaw := goodIn_r _ [35, 36, 37, 57, 58, 59, 60, 61, 62, 63, 64, 65, 66, 67, 68, 69, 70, 71, 72, 73, 74, 75, 76, 77, 78, 79, 80, 81, 82, 83, 84, 85, 86, 87, 88, 89, 90, 91, 92, 93, 94, 95, 96, 97, 98, 99, 100, 101, 102, 103, 104, 105, 106, 107, 108, 109, 110, 111, 112, 113, 114, 115, 116, 117, 118, 119, 120, 121, 122] rfl (by decide +kernel)
set_option maxRecDepth 20000 in
theorem gX12_holdsBy_X12_hasLaw : GoodIn wsX12_holdsBy (wsV RX12 360 RX12 yX12_hasLaw wsX12_hasLaw) := goodIn_app (goodIn_r _ [32, 33, 34, 5] rfl (by decide +kernel)) ggX12_holdsBy_X12_hasLaw
set_option maxRecDepth 20000 in
theorem ggX12_holdsBy_X12_goes : GoodIn wsX12_holdsBy wsX12_goes := goodIn_r _ [41, 42, 37, 36, 43, 44, 1, 9, 45, 46, 47, 5, 48, 49, 50, 12, 51, 52, 53, 54, 55, 56, 57, 58, 59, 60, 61, 62, 63, 64, 65, 66, 67, 68, 69, 70, 71, 72, 73, 74, 75, 76, 77, 78, 79, 80, 81, 82, 83, 84, 85, 86, 87, 88, 89, 90, 91, 92, 93, 94, 95, 96, 97, 98, 99, 100, 101, 102, 103, 104, 105, 106, 107, 108, 109, 110, 111, 112, 113, 114, 115, 116, 117, 118, 119, 120, 121, 122] rfl (by decide +kernel)
set_option maxRecDepth 20000 in
theorem gX12_holdsBy_X12_goes : GoodIn wsX12_holdsBy (wsV RX12 363 RX12 yX12_goes wsX12_goes) := goodIn_app (goodIn_r _ [38, 39, 40, 5] rfl (by decide +kernel)) ggX12_holdsBy_X12_goes
set_option maxRecDepth 20000 in
theorem ggX12_holdsBy_X12_galeOf : GoodIn wsX12_holdsBy wsX12_galeOf := goodIn_r _ [27, 28, 29, 30, 31, 57, 58, 59, 60, 61, 62, 63, 64, 65, 66, 67, 68, 69, 70, 71, 72, 73, 74, 75, 76, 77, 78, 79, 80, 81, 82, 83, 84, 85, 86, 87, 88, 89, 90, 91, 92, 93, 94, 95, 96, 97, 98, 99, 100, 101, 102, 103, 104, 105, 106, 107, 108, 109, 110, 111, 112, 113, 114, 115, 116, 117, 118, 119, 120, 121, 122] rfl (by decide +kernel)
set_option maxRecDepth 20000 in
theorem gX12_holdsBy_X12_galeOf : GoodIn wsX12_holdsBy (wsV RX12 343 RX12 yX12_galeOf wsX12_galeOf) := goodIn_app (goodIn_r _ [24, 25, 26, 5] rfl (by decide +kernel)) ggX12_holdsBy_X12_galeOf
theorem dX12_holdsBy_0 : decode cX12_holdsBy 0 = .ok (.aload_n 0, 1) := by decide +kernel
theorem dX12_holdsBy_1 : decode cX12_holdsBy 1 = .ok (.iload_n 1, 1) := by decide +kernel
theorem dX12_holdsBy_2 : decode cX12_holdsBy 2 = .ok (.iload_n 2, 1) := by decide +kernel
theorem dX12_holdsBy_3 : decode cX12_holdsBy 3 = .ok (.iload_n 3, 1) := by decide +kernel
theorem dX12_holdsBy_4 : decode cX12_holdsBy 4 = .ok (.iload 4, 2) := by decide +kernel
theorem dX12_holdsBy_6 : decode cX12_holdsBy 6 = .ok (.iload 5, 2) := by decide +kernel
theorem dX12_holdsBy_8 : decode cX12_holdsBy 8 = .ok (.invokevirtual 366, 3) := by decide +kernel
theorem dX12_holdsBy_11 : decode cX12_holdsBy 11 = .ok (.istore 6, 2) := by decide +kernel
theorem dX12_holdsBy_13 : decode cX12_holdsBy 13 = .ok (.aload_n 0, 1) := by decide +kernel
theorem dX12_holdsBy_14 : decode cX12_holdsBy 14 = .ok (.iload_n 1, 1) := by decide +kernel
theorem dX12_holdsBy_15 : decode cX12_holdsBy 15 = .ok (.iload_n 2, 1) := by decide +kernel
theorem dX12_holdsBy_16 : decode cX12_holdsBy 16 = .ok (.iload_n 3, 1) := by decide +kernel
theorem dX12_holdsBy_17 : decode cX12_holdsBy 17 = .ok (.iload 4, 2) := by decide +kernel
theorem dX12_holdsBy_19 : decode cX12_holdsBy 19 = .ok (.iload 6, 2) := by decide +kernel
theorem dX12_holdsBy_21 : decode cX12_holdsBy 21 = .ok (.iload 5, 2) := by decide +kernel
theorem dX12_holdsBy_23 : decode cX12_holdsBy 23 = .ok (.invokevirtual 346, 3) := by decide +kernel
theorem dX12_holdsBy_26 : decode cX12_holdsBy 26 = .ok (.aload_n 0, 1) := by decide +kernel
theorem dX12_holdsBy_27 : decode cX12_holdsBy 27 = .ok (.iconst 1, 1) := by decide +kernel
theorem dX12_holdsBy_28 : decode cX12_holdsBy 28 = .ok (.invokevirtual 360, 3) := by decide +kernel
theorem dX12_holdsBy_31 : decode cX12_holdsBy 31 = .ok (.ifCond .eq 30, 3) := by decide +kernel
theorem dX12_holdsBy_34 : decode cX12_holdsBy 34 = .ok (.aload_n 0, 1) := by decide +kernel
theorem dX12_holdsBy_35 : decode cX12_holdsBy 35 = .ok (.iconst 1, 1) := by decide +kernel
theorem dX12_holdsBy_36 : decode cX12_holdsBy 36 = .ok (.invokevirtual 363, 3) := by decide +kernel
theorem dX12_holdsBy_39 : decode cX12_holdsBy 39 = .ok (.ifCond .eq 22, 3) := by decide +kernel
theorem dX12_holdsBy_42 : decode cX12_holdsBy 42 = .ok (.aload_n 0, 1) := by decide +kernel
theorem dX12_holdsBy_43 : decode cX12_holdsBy 43 = .ok (.getfield 60, 3) := by decide +kernel
theorem dX12_holdsBy_46 : decode cX12_holdsBy 46 = .ok (.iconst 0, 1) := by decide +kernel
theorem dX12_holdsBy_47 : decode cX12_holdsBy 47 = .ok (.laload, 1) := by decide +kernel
theorem dX12_holdsBy_48 : decode cX12_holdsBy 48 = .ok (.lconst 0, 1) := by decide +kernel
theorem dX12_holdsBy_49 : decode cX12_holdsBy 49 = .ok (.lcmp, 1) := by decide +kernel
theorem dX12_holdsBy_50 : decode cX12_holdsBy 50 = .ok (.ifCond .eq 7, 3) := by decide +kernel
theorem dX12_holdsBy_53 : decode cX12_holdsBy 53 = .ok (.iconst 1, 1) := by decide +kernel
theorem dX12_holdsBy_54 : decode cX12_holdsBy 54 = .ok (.goto 26, 3) := by decide +kernel
theorem dX12_holdsBy_57 : decode cX12_holdsBy 57 = .ok (.iconst 0, 1) := by decide +kernel
theorem dX12_holdsBy_58 : decode cX12_holdsBy 58 = .ok (.goto 22, 3) := by decide +kernel
theorem dX12_holdsBy_61 : decode cX12_holdsBy 61 = .ok (.iload 6, 2) := by decide +kernel
theorem dX12_holdsBy_63 : decode cX12_holdsBy 63 = .ok (.bipush 10, 2) := by decide +kernel
theorem dX12_holdsBy_65 : decode cX12_holdsBy 65 = .ok (.aload_n 0, 1) := by decide +kernel
theorem dX12_holdsBy_66 : decode cX12_holdsBy 66 = .ok (.iload 4, 2) := by decide +kernel
theorem dX12_holdsBy_68 : decode cX12_holdsBy 68 = .ok (.invokevirtual 343, 3) := by decide +kernel
theorem dX12_holdsBy_71 : decode cX12_holdsBy 71 = .ok (.imul, 1) := by decide +kernel
theorem dX12_holdsBy_72 : decode cX12_holdsBy 72 = .ok (.if_icmp .lt 7, 3) := by decide +kernel
theorem dX12_holdsBy_75 : decode cX12_holdsBy 75 = .ok (.iconst 1, 1) := by decide +kernel
theorem dX12_holdsBy_76 : decode cX12_holdsBy 76 = .ok (.goto 4, 3) := by decide +kernel
theorem dX12_holdsBy_79 : decode cX12_holdsBy 79 = .ok (.iconst 0, 1) := by decide +kernel
theorem dX12_holdsBy_80 : decode cX12_holdsBy 80 = .ok (.ireturn, 1) := by decide +kernel
set_option maxRecDepth 20000 in
theorem ggX12_foresees_X12_adds : GoodIn wsX12_foresees wsX12_adds := goodIn_r _ [15, 2, 16, 17, 18, 19, 4, 6, 20, 21, 22, 31, 32, 33, 34, 35, 36, 37, 38, 39, 40, 41, 42, 43, 44, 45, 46, 47, 48, 49, 50, 51, 52, 53, 54, 55, 56, 57, 58, 59, 60, 61, 62, 63, 64, 65, 66, 67, 68, 69, 70, 71, 72, 73, 74, 75, 76, 77, 78, 79, 80, 81, 82, 83, 84, 85, 86, 87, 88, 89, 90, 91, 92, 93, 94, 95, 96] rfl (by decide +kernel)
set_option maxRecDepth 20000 in
theorem gX12_foresees_X12_adds : GoodIn wsX12_foresees (wsV RX12 379 RX12 yX12_adds wsX12_adds) := goodIn_app (goodIn_r _ [11, 12, 13, 14] rfl (by decide +kernel)) ggX12_foresees_X12_adds
set_option maxRecDepth 20000 in
theorem ggX12_foresees_X12_joyIn : GoodIn wsX12_foresees wsX12_joyIn := goodIn_r _ [26, 27, 28, 29, 30, 31, 32, 33, 34, 35, 36, 37, 38, 39, 40, 41, 42, 43, 44, 45, 46, 47, 48, 49, 50, 51, 52, 53, 54, 55, 56, 57, 58, 59, 60, 61, 62, 63, 64, 65, 66, 67, 68, 69, 70, 71, 72, 73, 74, 75, 76, 77, 78, 79, 80, 81, 82, 83, 84, 85, 86, 87, 88, 89, 90, 91, 92, 93, 94, 95, 96] rfl (by decide +kernel)
set_option maxRecDepth 20000 in
theorem gX12_foresees_X12_joyIn : GoodIn wsX12_foresees (wsV RX12 382 RX12 yX12_joyIn wsX12_joyIn) := goodIn_app (goodIn_r _ [23, 24, 25, 14] rfl (by decide +kernel)) ggX12_foresees_X12_joyIn
theorem dX12_foresees_0 : decode cX12_foresees 0 = .ok (.aload_n 0, 1) := by decide +kernel
theorem dX12_foresees_1 : decode cX12_foresees 1 = .ok (.aload_n 0, 1) := by decide +kernel
theorem dX12_foresees_2 : decode cX12_foresees 2 = .ok (.getfield 90, 3) := by decide +kernel
theorem dX12_foresees_5 : decode cX12_foresees 5 = .ok (.bipush 8, 2) := by decide +kernel
theorem dX12_foresees_7 : decode cX12_foresees 7 = .ok (.iload_n 1, 1) := by decide +kernel
theorem dX12_foresees_8 : decode cX12_foresees 8 = .ok (.imul, 1) := by decide +kernel
theorem dX12_foresees_9 : decode cX12_foresees 9 = .ok (.iload_n 2, 1) := by decide +kernel
theorem dX12_foresees_10 : decode cX12_foresees 10 = .ok (.iadd, 1) := by decide +kernel
theorem dX12_foresees_11 : decode cX12_foresees 11 = .ok (.iaload, 1) := by decide +kernel
theorem dX12_foresees_12 : decode cX12_foresees 12 = .ok (.putfield 370, 3) := by decide +kernel
theorem dX12_foresees_15 : decode cX12_foresees 15 = .ok (.aload_n 0, 1) := by decide +kernel
theorem dX12_foresees_16 : decode cX12_foresees 16 = .ok (.aload_n 0, 1) := by decide +kernel
theorem dX12_foresees_17 : decode cX12_foresees 17 = .ok (.getfield 93, 3) := by decide +kernel
theorem dX12_foresees_20 : decode cX12_foresees 20 = .ok (.bipush 8, 2) := by decide +kernel
theorem dX12_foresees_22 : decode cX12_foresees 22 = .ok (.iload_n 1, 1) := by decide +kernel
theorem dX12_foresees_23 : decode cX12_foresees 23 = .ok (.imul, 1) := by decide +kernel
theorem dX12_foresees_24 : decode cX12_foresees 24 = .ok (.iload_n 2, 1) := by decide +kernel
theorem dX12_foresees_25 : decode cX12_foresees 25 = .ok (.iadd, 1) := by decide +kernel
theorem dX12_foresees_26 : decode cX12_foresees 26 = .ok (.iaload, 1) := by decide +kernel
theorem dX12_foresees_27 : decode cX12_foresees 27 = .ok (.putfield 373, 3) := by decide +kernel
theorem dX12_foresees_30 : decode cX12_foresees 30 = .ok (.aload_n 0, 1) := by decide +kernel
theorem dX12_foresees_31 : decode cX12_foresees 31 = .ok (.aload_n 0, 1) := by decide +kernel
theorem dX12_foresees_32 : decode cX12_foresees 32 = .ok (.getfield 96, 3) := by decide +kernel
theorem dX12_foresees_35 : decode cX12_foresees 35 = .ok (.bipush 8, 2) := by decide +kernel
theorem dX12_foresees_37 : decode cX12_foresees 37 = .ok (.iload_n 1, 1) := by decide +kernel
theorem dX12_foresees_38 : decode cX12_foresees 38 = .ok (.imul, 1) := by decide +kernel
theorem dX12_foresees_39 : decode cX12_foresees 39 = .ok (.iload_n 2, 1) := by decide +kernel
theorem dX12_foresees_40 : decode cX12_foresees 40 = .ok (.iadd, 1) := by decide +kernel
theorem dX12_foresees_41 : decode cX12_foresees 41 = .ok (.iaload, 1) := by decide +kernel
theorem dX12_foresees_42 : decode cX12_foresees 42 = .ok (.putfield 376, 3) := by decide +kernel
theorem dX12_foresees_45 : decode cX12_foresees 45 = .ok (.iload 4, 2) := by decide +kernel
theorem dX12_foresees_47 : decode cX12_foresees 47 = .ok (.iconst (-1), 1) := by decide +kernel
theorem dX12_foresees_48 : decode cX12_foresees 48 = .ok (.if_icmp .eq 15, 3) := by decide +kernel
theorem dX12_foresees_51 : decode cX12_foresees 51 = .ok (.aload_n 0, 1) := by decide +kernel
theorem dX12_foresees_52 : decode cX12_foresees 52 = .ok (.iload 4, 2) := by decide +kernel
theorem dX12_foresees_54 : decode cX12_foresees 54 = .ok (.aload_n 0, 1) := by decide +kernel
theorem dX12_foresees_55 : decode cX12_foresees 55 = .ok (.getfield 63, 3) := by decide +kernel
theorem dX12_foresees_58 : decode cX12_foresees 58 = .ok (.iload_n 1, 1) := by decide +kernel
theorem dX12_foresees_59 : decode cX12_foresees 59 = .ok (.iaload, 1) := by decide +kernel
theorem dX12_foresees_60 : decode cX12_foresees 60 = .ok (.invokevirtual 379, 3) := by decide +kernel
theorem dX12_foresees_63 : decode cX12_foresees 63 = .ok (.iconst 0, 1) := by decide +kernel
theorem dX12_foresees_64 : decode cX12_foresees 64 = .ok (.istore 5, 2) := by decide +kernel
theorem dX12_foresees_66 : decode cX12_foresees 66 = .ok (.iload 5, 2) := by decide +kernel
theorem dX12_foresees_68 : decode cX12_foresees 68 = .ok (.aload_n 0, 1) := by decide +kernel
theorem dX12_foresees_69 : decode cX12_foresees 69 = .ok (.getfield 13, 3) := by decide +kernel
theorem dX12_foresees_72 : decode cX12_foresees 72 = .ok (.iconst 2, 1) := by decide +kernel
theorem dX12_foresees_73 : decode cX12_foresees 73 = .ok (.iaload, 1) := by decide +kernel
theorem dX12_foresees_74 : decode cX12_foresees 74 = .ok (.if_icmp .ge 64, 3) := by decide +kernel
theorem dX12_foresees_77 : decode cX12_foresees 77 = .ok (.aload_n 0, 1) := by decide +kernel
theorem dX12_foresees_78 : decode cX12_foresees 78 = .ok (.getfield 28, 3) := by decide +kernel
theorem dX12_foresees_81 : decode cX12_foresees 81 = .ok (.iload 5, 2) := by decide +kernel
theorem dX12_foresees_83 : decode cX12_foresees 83 = .ok (.iaload, 1) := by decide +kernel
theorem dX12_foresees_84 : decode cX12_foresees 84 = .ok (.iload_n 2, 1) := by decide +kernel
theorem dX12_foresees_85 : decode cX12_foresees 85 = .ok (.if_icmp .ne 47, 3) := by decide +kernel
theorem dX12_foresees_88 : decode cX12_foresees 88 = .ok (.aload_n 0, 1) := by decide +kernel
theorem dX12_foresees_89 : decode cX12_foresees 89 = .ok (.getfield 31, 3) := by decide +kernel
theorem dX12_foresees_92 : decode cX12_foresees 92 = .ok (.iload 5, 2) := by decide +kernel
theorem dX12_foresees_94 : decode cX12_foresees 94 = .ok (.iaload, 1) := by decide +kernel
theorem dX12_foresees_95 : decode cX12_foresees 95 = .ok (.aload_n 0, 1) := by decide +kernel
theorem dX12_foresees_96 : decode cX12_foresees 96 = .ok (.getfield 63, 3) := by decide +kernel
theorem dX12_foresees_99 : decode cX12_foresees 99 = .ok (.iload_n 1, 1) := by decide +kernel
theorem dX12_foresees_100 : decode cX12_foresees 100 = .ok (.iaload, 1) := by decide +kernel
theorem dX12_foresees_101 : decode cX12_foresees 101 = .ok (.if_icmp .lt 31, 3) := by decide +kernel
theorem dX12_foresees_104 : decode cX12_foresees 104 = .ok (.aload_n 0, 1) := by decide +kernel
theorem dX12_foresees_105 : decode cX12_foresees 105 = .ok (.getfield 31, 3) := by decide +kernel
theorem dX12_foresees_108 : decode cX12_foresees 108 = .ok (.iload 5, 2) := by decide +kernel
theorem dX12_foresees_110 : decode cX12_foresees 110 = .ok (.iaload, 1) := by decide +kernel
theorem dX12_foresees_111 : decode cX12_foresees 111 = .ok (.iload_n 3, 1) := by decide +kernel
theorem dX12_foresees_112 : decode cX12_foresees 112 = .ok (.if_icmp .gt 20, 3) := by decide +kernel
theorem dX12_foresees_115 : decode cX12_foresees 115 = .ok (.aload_n 0, 1) := by decide +kernel
theorem dX12_foresees_116 : decode cX12_foresees 116 = .ok (.aload_n 0, 1) := by decide +kernel
theorem dX12_foresees_117 : decode cX12_foresees 117 = .ok (.iload 5, 2) := by decide +kernel
theorem dX12_foresees_119 : decode cX12_foresees 119 = .ok (.invokevirtual 382, 3) := by decide +kernel
theorem dX12_foresees_122 : decode cX12_foresees 122 = .ok (.aload_n 0, 1) := by decide +kernel
theorem dX12_foresees_123 : decode cX12_foresees 123 = .ok (.getfield 31, 3) := by decide +kernel
theorem dX12_foresees_126 : decode cX12_foresees 126 = .ok (.iload 5, 2) := by decide +kernel
theorem dX12_foresees_128 : decode cX12_foresees 128 = .ok (.iaload, 1) := by decide +kernel
theorem dX12_foresees_129 : decode cX12_foresees 129 = .ok (.invokevirtual 379, 3) := by decide +kernel
theorem dX12_foresees_132 : decode cX12_foresees 132 = .ok (.iinc 5 1, 3) := by decide +kernel
theorem dX12_foresees_135 : decode cX12_foresees 135 = .ok (.goto (-69), 3) := by decide +kernel
theorem dX12_foresees_138 : decode cX12_foresees 138 = .ok (.return_, 1) := by decide +kernel
theorem dX12_adds_0 : decode cX12_adds 0 = .ok (.aload_n 0, 1) := by decide +kernel
theorem dX12_adds_1 : decode cX12_adds 1 = .ok (.sipush 9999, 3) := by decide +kernel
theorem dX12_adds_4 : decode cX12_adds 4 = .ok (.aload_n 0, 1) := by decide +kernel
theorem dX12_adds_5 : decode cX12_adds 5 = .ok (.getfield 370, 3) := by decide +kernel
theorem dX12_adds_8 : decode cX12_adds 8 = .ok (.iload_n 1, 1) := by decide +kernel
theorem dX12_adds_9 : decode cX12_adds 9 = .ok (.iadd, 1) := by decide +kernel
theorem dX12_adds_10 : decode cX12_adds 10 = .ok (.invokestatic 340, 3) := by decide +kernel
theorem dX12_adds_13 : decode cX12_adds 13 = .ok (.putfield 370, 3) := by decide +kernel
theorem dX12_adds_16 : decode cX12_adds 16 = .ok (.aload_n 0, 1) := by decide +kernel
theorem dX12_adds_17 : decode cX12_adds 17 = .ok (.dup, 1) := by decide +kernel
theorem dX12_adds_18 : decode cX12_adds 18 = .ok (.getfield 373, 3) := by decide +kernel
theorem dX12_adds_21 : decode cX12_adds 21 = .ok (.iconst 1, 1) := by decide +kernel
theorem dX12_adds_22 : decode cX12_adds 22 = .ok (.iadd, 1) := by decide +kernel
theorem dX12_adds_23 : decode cX12_adds 23 = .ok (.putfield 373, 3) := by decide +kernel
theorem dX12_adds_26 : decode cX12_adds 26 = .ok (.aload_n 0, 1) := by decide +kernel
theorem dX12_adds_27 : decode cX12_adds 27 = .ok (.aload_n 0, 1) := by decide +kernel
theorem dX12_adds_28 : decode cX12_adds 28 = .ok (.getfield 376, 3) := by decide +kernel
theorem dX12_adds_31 : decode cX12_adds 31 = .ok (.iload_n 2, 1) := by decide +kernel
theorem dX12_adds_32 : decode cX12_adds 32 = .ok (.invokestatic 385, 3) := by decide +kernel
theorem dX12_adds_35 : decode cX12_adds 35 = .ok (.putfield 376, 3) := by decide +kernel
theorem dX12_adds_38 : decode cX12_adds 38 = .ok (.return_, 1) := by decide +kernel
set_option maxRecDepth 20000 in
theorem ggX12_willHold_X12_foresees : GoodIn wsX12_willHold wsX12_foresees := goodIn_r _ [8, 9, 1, 10, 2, 11, 3, 12, 13, 14, 15, 16, 17, 18, 7, 19, 20, 21, 22, 23, 24, 25, 26, 27, 28, 29, 30, 31, 32, 33, 34, 88, 89, 90, 91, 92, 93, 94, 95, 96, 97, 98, 99, 100, 101, 102, 103, 104, 105, 106, 107, 108, 109, 110, 111, 112, 113, 114, 115, 116, 117, 118, 119, 120, 121, 122, 123, 124, 125, 126, 127, 128, 129, 130, 131, 132, 133, 134, 135, 136, 137, 138, 139, 140, 141, 142, 143, 144, 145, 146, 147, 148, 149, 150, 151, 152, 153] rfl (by decide +kernel)
set_option maxRecDepth 20000 in
theorem gX12_willHold_X12_foresees : GoodIn wsX12_willHold (wsV RX12 387 RX12 yX12_foresees wsX12_foresees) := goodIn_app (goodIn_r _ [4, 5, 6, 7] rfl (by decide +kernel)) ggX12_willHold_X12_foresees
set_option maxRecDepth 20000 in
theorem ggX12_willHold_X12_holdsBy : GoodIn wsX12_willHold wsX12_holdsBy := goodIn_r _ [38, 39, 40, 41, 42, 7, 43, 44, 45, 46, 47, 48, 22, 49, 50, 51, 52, 53, 54, 55, 56, 20, 21, 23, 57, 58, 59, 60, 31, 61, 13, 62, 63, 64, 65, 66, 67, 68, 69, 70, 71, 72, 73, 74, 75, 76, 77, 78, 79, 80, 81, 82, 83, 84, 85, 86, 87, 88, 89, 90, 91, 92, 93, 94, 95, 96, 97, 98, 99, 100, 101, 102, 103, 104, 105, 106, 107, 108, 109, 110, 111, 112, 113, 114, 115, 116, 117, 118, 119, 120, 121, 122, 123, 124, 125, 126, 127, 128, 129, 130, 131, 132, 133, 134, 135, 136, 137, 138, 139, 140, 141, 142, 143, 144, 145, 146, 147, 148, 149, 150, 151, 152, 153] rfl (by decide +kernel)
set_option maxRecDepth 20000 in
theorem gX12_willHold_X12_holdsBy : GoodIn wsX12_willHold (wsV RX12 391 RX12 yX12_holdsBy wsX12_holdsBy) := goodIn_app (goodIn_r _ [35, 36, 37, 7] rfl (by decide +kernel)) ggX12_willHold_X12_holdsBy
theorem dX12_willHold_0 : decode cX12_willHold 0 = .ok (.aload_n 0, 1) := by decide +kernel
theorem dX12_willHold_1 : decode cX12_willHold 1 = .ok (.iload_n 1, 1) := by decide +kernel
theorem dX12_willHold_2 : decode cX12_willHold 2 = .ok (.iload_n 2, 1) := by decide +kernel
theorem dX12_willHold_3 : decode cX12_willHold 3 = .ok (.iload_n 3, 1) := by decide +kernel
theorem dX12_willHold_4 : decode cX12_willHold 4 = .ok (.iload 4, 2) := by decide +kernel
theorem dX12_willHold_6 : decode cX12_willHold 6 = .ok (.invokevirtual 387, 3) := by decide +kernel
theorem dX12_willHold_9 : decode cX12_willHold 9 = .ok (.aload_n 0, 1) := by decide +kernel
theorem dX12_willHold_10 : decode cX12_willHold 10 = .ok (.aload_n 0, 1) := by decide +kernel
theorem dX12_willHold_11 : decode cX12_willHold 11 = .ok (.getfield 370, 3) := by decide +kernel
theorem dX12_willHold_14 : decode cX12_willHold 14 = .ok (.aload_n 0, 1) := by decide +kernel
theorem dX12_willHold_15 : decode cX12_willHold 15 = .ok (.getfield 373, 3) := by decide +kernel
theorem dX12_willHold_18 : decode cX12_willHold 18 = .ok (.aload_n 0, 1) := by decide +kernel
theorem dX12_willHold_19 : decode cX12_willHold 19 = .ok (.getfield 376, 3) := by decide +kernel
theorem dX12_willHold_22 : decode cX12_willHold 22 = .ok (.iload_n 3, 1) := by decide +kernel
theorem dX12_willHold_23 : decode cX12_willHold 23 = .ok (.iconst 0, 1) := by decide +kernel
theorem dX12_willHold_24 : decode cX12_willHold 24 = .ok (.invokevirtual 391, 3) := by decide +kernel
theorem dX12_willHold_27 : decode cX12_willHold 27 = .ok (.ireturn, 1) := by decide +kernel
theorem dX12_remembers_0 : decode cX12_remembers 0 = .ok (.bipush 8, 2) := by decide +kernel
theorem dX12_remembers_2 : decode cX12_remembers 2 = .ok (.iload_n 1, 1) := by decide +kernel
theorem dX12_remembers_3 : decode cX12_remembers 3 = .ok (.imul, 1) := by decide +kernel
theorem dX12_remembers_4 : decode cX12_remembers 4 = .ok (.iload_n 2, 1) := by decide +kernel
theorem dX12_remembers_5 : decode cX12_remembers 5 = .ok (.iadd, 1) := by decide +kernel
theorem dX12_remembers_6 : decode cX12_remembers 6 = .ok (.istore 4, 2) := by decide +kernel
theorem dX12_remembers_8 : decode cX12_remembers 8 = .ok (.aload_n 0, 1) := by decide +kernel
theorem dX12_remembers_9 : decode cX12_remembers 9 = .ok (.getfield 90, 3) := by decide +kernel
theorem dX12_remembers_12 : decode cX12_remembers 12 = .ok (.iload 4, 2) := by decide +kernel
theorem dX12_remembers_14 : decode cX12_remembers 14 = .ok (.sipush 9999, 3) := by decide +kernel
theorem dX12_remembers_17 : decode cX12_remembers 17 = .ok (.aload_n 0, 1) := by decide +kernel
theorem dX12_remembers_18 : decode cX12_remembers 18 = .ok (.getfield 90, 3) := by decide +kernel
theorem dX12_remembers_21 : decode cX12_remembers 21 = .ok (.iload 4, 2) := by decide +kernel
theorem dX12_remembers_23 : decode cX12_remembers 23 = .ok (.iaload, 1) := by decide +kernel
theorem dX12_remembers_24 : decode cX12_remembers 24 = .ok (.iload_n 3, 1) := by decide +kernel
theorem dX12_remembers_25 : decode cX12_remembers 25 = .ok (.iadd, 1) := by decide +kernel
theorem dX12_remembers_26 : decode cX12_remembers 26 = .ok (.invokestatic 340, 3) := by decide +kernel
theorem dX12_remembers_29 : decode cX12_remembers 29 = .ok (.iastore, 1) := by decide +kernel
theorem dX12_remembers_30 : decode cX12_remembers 30 = .ok (.aload_n 0, 1) := by decide +kernel
theorem dX12_remembers_31 : decode cX12_remembers 31 = .ok (.getfield 93, 3) := by decide +kernel
theorem dX12_remembers_34 : decode cX12_remembers 34 = .ok (.iload 4, 2) := by decide +kernel
theorem dX12_remembers_36 : decode cX12_remembers 36 = .ok (.dup2, 1) := by decide +kernel
theorem dX12_remembers_37 : decode cX12_remembers 37 = .ok (.iaload, 1) := by decide +kernel
theorem dX12_remembers_38 : decode cX12_remembers 38 = .ok (.iconst 1, 1) := by decide +kernel
theorem dX12_remembers_39 : decode cX12_remembers 39 = .ok (.iadd, 1) := by decide +kernel
theorem dX12_remembers_40 : decode cX12_remembers 40 = .ok (.iastore, 1) := by decide +kernel
theorem dX12_remembers_41 : decode cX12_remembers 41 = .ok (.aload_n 0, 1) := by decide +kernel
theorem dX12_remembers_42 : decode cX12_remembers 42 = .ok (.getfield 96, 3) := by decide +kernel
theorem dX12_remembers_45 : decode cX12_remembers 45 = .ok (.iload 4, 2) := by decide +kernel
theorem dX12_remembers_47 : decode cX12_remembers 47 = .ok (.aload_n 0, 1) := by decide +kernel
theorem dX12_remembers_48 : decode cX12_remembers 48 = .ok (.getfield 63, 3) := by decide +kernel
theorem dX12_remembers_51 : decode cX12_remembers 51 = .ok (.iload_n 1, 1) := by decide +kernel
theorem dX12_remembers_52 : decode cX12_remembers 52 = .ok (.iaload, 1) := by decide +kernel
theorem dX12_remembers_53 : decode cX12_remembers 53 = .ok (.iastore, 1) := by decide +kernel
theorem dX12_remembers_54 : decode cX12_remembers 54 = .ok (.return_, 1) := by decide +kernel
set_option maxRecDepth 20000 in
theorem ggX12_gainOf_X12_moodBy : GoodIn wsX12_gainOf wsX12_moodBy := goodIn_r _ [18, 19, 20, 21, 7, 8, 9, 10, 11, 12, 13, 6, 22, 23, 24, 17, 25, 26, 27, 28, 29, 30, 31, 32, 33, 34, 35, 36, 37, 38, 39, 40, 41, 42, 43, 44, 45, 46, 47, 48, 49, 50, 51, 52, 53, 54, 55, 56, 57, 58, 59, 60, 61, 62, 63, 64, 65, 66, 67, 68, 69, 70, 71, 72, 73, 74, 75, 76, 77, 78, 79, 80, 81, 82, 83, 84, 85, 86, 87, 88, 89, 90, 91, 92, 93, 94, 95, 96, 97, 98, 99, 100, 101, 102, 103, 104, 105, 106, 107, 108, 109, 110, 111, 112, 113, 114, 115, 116, 117, 118, 119, 120, 121, 122, 123, 124, 125, 126, 127] rfl (by decide +kernel)
set_option maxRecDepth 20000 in
theorem gX12_gainOf_X12_moodBy : GoodIn wsX12_gainOf (wsV RX12 366 RX12 yX12_moodBy wsX12_moodBy) := goodIn_app (goodIn_r _ [14, 15, 16, 17] rfl (by decide +kernel)) ggX12_gainOf_X12_moodBy
set_option maxRecDepth 20000 in
theorem ggX12_gainOf_X12_calls : GoodIn wsX12_gainOf wsX12_calls := goodIn_r _ [25, 26, 27, 9, 28, 21, 29, 30, 31, 17, 32, 33, 34, 35, 36, 62, 63, 64, 65, 66, 67, 68, 69, 70, 71, 72, 73, 74, 75, 76, 77, 78, 79, 80, 81, 82, 83, 84, 85, 86, 87, 88, 89, 90, 91, 92, 93, 94, 95, 96, 97, 98, 99, 100, 101, 102, 103, 104, 105, 106, 107, 108, 109, 110, 111, 112, 113, 114, 115, 116, 117, 118, 119, 120, 121, 122, 123, 124, 125, 126, 127] rfl (by decide +kernel)
set_option maxRecDepth 20000 in
theorem gX12_gainOf_X12_calls : GoodIn wsX12_gainOf (wsV RX12 346 RX12 yX12_calls wsX12_calls) := goodIn_app (goodIn_r _ [22, 23, 24, 17] rfl (by decide +kernel)) ggX12_gainOf_X12_calls
set_option maxRecDepth 20000 in
theorem ggX12_gainOf_X12_hasLaw : GoodIn wsX12_gainOf wsX12_hasLaw := goodIn_r _ [40, 41, 42, 62, 63, 64, 65, 66, 67, 68, 69, 70, 71, 72, 73, 74, 75, 76, 77, 78, 79, 80, 81, 82, 83, 84, 85, 86, 87, 88, 89, 90, 91, 92, 93, 94, 95, 96, 97, 98, 99, 100, 101, 102, 103, 104, 105, 106, 107, 108, 109, 110, 111, 112, 113, 114, 115, 116, 117, 118, 119, 120, 121, 122, 123, 124, 125, 126, 127] rfl (by decide +kernel)
set_option maxRecDepth 20000 in
theorem gX12_gainOf_X12_hasLaw : GoodIn wsX12_gainOf (wsV RX12 360 RX12 yX12_hasLaw wsX12_hasLaw) := goodIn_app (goodIn_r _ [37, 38, 39, 17] rfl (by decide +kernel)) ggX12_gainOf_X12_hasLaw
set_option maxRecDepth 20000 in
theorem ggX12_gainOf_X12_goes : GoodIn wsX12_gainOf wsX12_goes := goodIn_r _ [46, 47, 42, 41, 48, 49, 6, 21, 50, 51, 52, 17, 53, 54, 55, 9, 56, 57, 58, 59, 60, 61, 62, 63, 64, 65, 66, 67, 68, 69, 70, 71, 72, 73, 74, 75, 76, 77, 78, 79, 80, 81, 82, 83, 84, 85, 86, 87, 88, 89, 90, 91, 92, 93, 94, 95, 96, 97, 98, 99, 100, 101, 102, 103, 104, 105, 106, 107, 108, 109, 110, 111, 112, 113, 114, 115, 116, 117, 118, 119, 120, 121, 122, 123, 124, 125, 126, 127] rfl (by decide +kernel)
set_option maxRecDepth 20000 in
theorem gX12_gainOf_X12_goes : GoodIn wsX12_gainOf (wsV RX12 363 RX12 yX12_goes wsX12_goes) := goodIn_app (goodIn_r _ [43, 44, 45, 17] rfl (by decide +kernel)) ggX12_gainOf_X12_goes
theorem dX12_gainOf_0 : decode cX12_gainOf 0 = .ok (.bipush 8, 2) := by decide +kernel
theorem dX12_gainOf_2 : decode cX12_gainOf 2 = .ok (.iload_n 1, 1) := by decide +kernel
theorem dX12_gainOf_3 : decode cX12_gainOf 3 = .ok (.imul, 1) := by decide +kernel
theorem dX12_gainOf_4 : decode cX12_gainOf 4 = .ok (.iload_n 2, 1) := by decide +kernel
theorem dX12_gainOf_5 : decode cX12_gainOf 5 = .ok (.iadd, 1) := by decide +kernel
theorem dX12_gainOf_6 : decode cX12_gainOf 6 = .ok (.istore_n 3, 1) := by decide +kernel
theorem dX12_gainOf_7 : decode cX12_gainOf 7 = .ok (.aload_n 0, 1) := by decide +kernel
theorem dX12_gainOf_8 : decode cX12_gainOf 8 = .ok (.aload_n 0, 1) := by decide +kernel
theorem dX12_gainOf_9 : decode cX12_gainOf 9 = .ok (.getfield 90, 3) := by decide +kernel
theorem dX12_gainOf_12 : decode cX12_gainOf 12 = .ok (.iload_n 3, 1) := by decide +kernel
theorem dX12_gainOf_13 : decode cX12_gainOf 13 = .ok (.iaload, 1) := by decide +kernel
theorem dX12_gainOf_14 : decode cX12_gainOf 14 = .ok (.aload_n 0, 1) := by decide +kernel
theorem dX12_gainOf_15 : decode cX12_gainOf 15 = .ok (.getfield 93, 3) := by decide +kernel
theorem dX12_gainOf_18 : decode cX12_gainOf 18 = .ok (.iload_n 3, 1) := by decide +kernel
theorem dX12_gainOf_19 : decode cX12_gainOf 19 = .ok (.iaload, 1) := by decide +kernel
theorem dX12_gainOf_20 : decode cX12_gainOf 20 = .ok (.aload_n 0, 1) := by decide +kernel
theorem dX12_gainOf_21 : decode cX12_gainOf 21 = .ok (.getfield 96, 3) := by decide +kernel
theorem dX12_gainOf_24 : decode cX12_gainOf 24 = .ok (.iload_n 3, 1) := by decide +kernel
theorem dX12_gainOf_25 : decode cX12_gainOf 25 = .ok (.iaload, 1) := by decide +kernel
theorem dX12_gainOf_26 : decode cX12_gainOf 26 = .ok (.aload_n 0, 1) := by decide +kernel
theorem dX12_gainOf_27 : decode cX12_gainOf 27 = .ok (.getfield 63, 3) := by decide +kernel
theorem dX12_gainOf_30 : decode cX12_gainOf 30 = .ok (.iload_n 1, 1) := by decide +kernel
theorem dX12_gainOf_31 : decode cX12_gainOf 31 = .ok (.iaload, 1) := by decide +kernel
theorem dX12_gainOf_32 : decode cX12_gainOf 32 = .ok (.iconst 1, 1) := by decide +kernel
theorem dX12_gainOf_33 : decode cX12_gainOf 33 = .ok (.invokevirtual 366, 3) := by decide +kernel
theorem dX12_gainOf_36 : decode cX12_gainOf 36 = .ok (.istore 4, 2) := by decide +kernel
theorem dX12_gainOf_38 : decode cX12_gainOf 38 = .ok (.aload_n 0, 1) := by decide +kernel
theorem dX12_gainOf_39 : decode cX12_gainOf 39 = .ok (.aload_n 0, 1) := by decide +kernel
theorem dX12_gainOf_40 : decode cX12_gainOf 40 = .ok (.getfield 90, 3) := by decide +kernel
theorem dX12_gainOf_43 : decode cX12_gainOf 43 = .ok (.iload_n 3, 1) := by decide +kernel
theorem dX12_gainOf_44 : decode cX12_gainOf 44 = .ok (.iaload, 1) := by decide +kernel
theorem dX12_gainOf_45 : decode cX12_gainOf 45 = .ok (.aload_n 0, 1) := by decide +kernel
theorem dX12_gainOf_46 : decode cX12_gainOf 46 = .ok (.getfield 93, 3) := by decide +kernel
theorem dX12_gainOf_49 : decode cX12_gainOf 49 = .ok (.iload_n 3, 1) := by decide +kernel
theorem dX12_gainOf_50 : decode cX12_gainOf 50 = .ok (.iaload, 1) := by decide +kernel
theorem dX12_gainOf_51 : decode cX12_gainOf 51 = .ok (.aload_n 0, 1) := by decide +kernel
theorem dX12_gainOf_52 : decode cX12_gainOf 52 = .ok (.getfield 96, 3) := by decide +kernel
theorem dX12_gainOf_55 : decode cX12_gainOf 55 = .ok (.iload_n 3, 1) := by decide +kernel
theorem dX12_gainOf_56 : decode cX12_gainOf 56 = .ok (.iaload, 1) := by decide +kernel
theorem dX12_gainOf_57 : decode cX12_gainOf 57 = .ok (.aload_n 0, 1) := by decide +kernel
theorem dX12_gainOf_58 : decode cX12_gainOf 58 = .ok (.getfield 63, 3) := by decide +kernel
theorem dX12_gainOf_61 : decode cX12_gainOf 61 = .ok (.iload_n 1, 1) := by decide +kernel
theorem dX12_gainOf_62 : decode cX12_gainOf 62 = .ok (.iaload, 1) := by decide +kernel
theorem dX12_gainOf_63 : decode cX12_gainOf 63 = .ok (.iload 4, 2) := by decide +kernel
theorem dX12_gainOf_65 : decode cX12_gainOf 65 = .ok (.iconst 1, 1) := by decide +kernel
theorem dX12_gainOf_66 : decode cX12_gainOf 66 = .ok (.invokevirtual 346, 3) := by decide +kernel
theorem dX12_gainOf_69 : decode cX12_gainOf 69 = .ok (.aload_n 0, 1) := by decide +kernel
theorem dX12_gainOf_70 : decode cX12_gainOf 70 = .ok (.iconst 2, 1) := by decide +kernel
theorem dX12_gainOf_71 : decode cX12_gainOf 71 = .ok (.invokevirtual 360, 3) := by decide +kernel
theorem dX12_gainOf_74 : decode cX12_gainOf 74 = .ok (.ifCond .eq 31, 3) := by decide +kernel
theorem dX12_gainOf_77 : decode cX12_gainOf 77 = .ok (.aload_n 0, 1) := by decide +kernel
theorem dX12_gainOf_78 : decode cX12_gainOf 78 = .ok (.iconst 2, 1) := by decide +kernel
theorem dX12_gainOf_79 : decode cX12_gainOf 79 = .ok (.invokevirtual 363, 3) := by decide +kernel
theorem dX12_gainOf_82 : decode cX12_gainOf 82 = .ok (.ifCond .eq 23, 3) := by decide +kernel
theorem dX12_gainOf_85 : decode cX12_gainOf 85 = .ok (.lconst 0, 1) := by decide +kernel
theorem dX12_gainOf_86 : decode cX12_gainOf 86 = .ok (.ldc2_w 395, 3) := by decide +kernel
theorem dX12_gainOf_89 : decode cX12_gainOf 89 = .ok (.aload_n 0, 1) := by decide +kernel
theorem dX12_gainOf_90 : decode cX12_gainOf 90 = .ok (.getfield 60, 3) := by decide +kernel
theorem dX12_gainOf_93 : decode cX12_gainOf 93 = .ok (.iconst 0, 1) := by decide +kernel
theorem dX12_gainOf_94 : decode cX12_gainOf 94 = .ok (.laload, 1) := by decide +kernel
theorem dX12_gainOf_95 : decode cX12_gainOf 95 = .ok (.invokestatic 354, 3) := by decide +kernel
theorem dX12_gainOf_98 : decode cX12_gainOf 98 = .ok (.invokestatic 357, 3) := by decide +kernel
theorem dX12_gainOf_101 : decode cX12_gainOf 101 = .ok (.l2i, 1) := by decide +kernel
theorem dX12_gainOf_102 : decode cX12_gainOf 102 = .ok (.goto 4, 3) := by decide +kernel
theorem dX12_gainOf_105 : decode cX12_gainOf 105 = .ok (.iconst 1, 1) := by decide +kernel
theorem dX12_gainOf_106 : decode cX12_gainOf 106 = .ok (.ireturn, 1) := by decide +kernel
theorem dX12_draw_0 : decode cX12_draw 0 = .ok (.aload_n 0, 1) := by decide +kernel
theorem dX12_draw_1 : decode cX12_draw 1 = .ok (.getfield 87, 3) := by decide +kernel
theorem dX12_draw_4 : decode cX12_draw 4 = .ok (.iload_n 1, 1) := by decide +kernel
theorem dX12_draw_5 : decode cX12_draw 5 = .ok (.aload_n 0, 1) := by decide +kernel
theorem dX12_draw_6 : decode cX12_draw 6 = .ok (.getfield 87, 3) := by decide +kernel
theorem dX12_draw_9 : decode cX12_draw 9 = .ok (.iload_n 1, 1) := by decide +kernel
theorem dX12_draw_10 : decode cX12_draw 10 = .ok (.iaload, 1) := by decide +kernel
theorem dX12_draw_11 : decode cX12_draw 11 = .ok (.ldc_w 397, 3) := by decide +kernel
theorem dX12_draw_14 : decode cX12_draw 14 = .ok (.imul, 1) := by decide +kernel
theorem dX12_draw_15 : decode cX12_draw 15 = .ok (.sipush 12345, 3) := by decide +kernel
theorem dX12_draw_18 : decode cX12_draw 18 = .ok (.iadd, 1) := by decide +kernel
theorem dX12_draw_19 : decode cX12_draw 19 = .ok (.ldc_w 400, 3) := by decide +kernel
theorem dX12_draw_22 : decode cX12_draw 22 = .ok (.iand, 1) := by decide +kernel
theorem dX12_draw_23 : decode cX12_draw 23 = .ok (.iastore, 1) := by decide +kernel
theorem dX12_draw_24 : decode cX12_draw 24 = .ok (.aload_n 0, 1) := by decide +kernel
theorem dX12_draw_25 : decode cX12_draw 25 = .ok (.getfield 87, 3) := by decide +kernel
theorem dX12_draw_28 : decode cX12_draw 28 = .ok (.iload_n 1, 1) := by decide +kernel
theorem dX12_draw_29 : decode cX12_draw 29 = .ok (.iaload, 1) := by decide +kernel
theorem dX12_draw_30 : decode cX12_draw 30 = .ok (.bipush 16, 2) := by decide +kernel
theorem dX12_draw_32 : decode cX12_draw 32 = .ok (.ishr, 1) := by decide +kernel
theorem dX12_draw_33 : decode cX12_draw 33 = .ok (.iload_n 2, 1) := by decide +kernel
theorem dX12_draw_34 : decode cX12_draw 34 = .ok (.irem, 1) := by decide +kernel
theorem dX12_draw_35 : decode cX12_draw 35 = .ok (.ireturn, 1) := by decide +kernel
set_option maxRecDepth 20000 in
theorem ggX12_night_X12_draw : GoodIn wsX12_night wsX12_draw := goodIn_r _ [18, 19, 20, 21, 88, 89, 90, 91, 92, 93, 94, 95, 96, 97, 98, 99, 100, 101, 102, 103, 104, 105, 106, 107, 108, 109, 110, 111, 112, 113, 114, 115, 116, 117, 118, 119, 120, 121, 122, 123, 124, 125, 126, 127, 128, 129, 130, 131, 132, 133, 134, 135, 136, 137, 138, 139, 140, 141, 142, 143, 144, 145, 146, 147, 148, 149, 150, 151, 152, 153] rfl (by decide +kernel)
set_option maxRecDepth 20000 in
theorem gX12_night_X12_draw : GoodIn wsX12_night (wsV RX12 401 RX12 yX12_draw wsX12_draw) := goodIn_app (goodIn_r _ [14, 15, 16, 17] rfl (by decide +kernel)) ggX12_night_X12_draw
set_option maxRecDepth 20000 in
theorem ggX12_night_X12_holdsBy : GoodIn wsX12_night wsX12_holdsBy := goodIn_r _ [25, 26, 27, 28, 29, 17, 30, 31, 32, 33, 34, 35, 12, 36, 37, 38, 39, 40, 41, 42, 43, 44, 45, 46, 47, 48, 49, 50, 51, 52, 3, 53, 54, 55, 56, 57, 58, 59, 60, 61, 62, 63, 64, 65, 66, 67, 68, 69, 70, 71, 72, 73, 74, 75, 76, 77, 78, 88, 89, 90, 91, 92, 93, 94, 95, 96, 97, 98, 99, 100, 101, 102, 103, 104, 105, 106, 107, 108, 109, 110, 111, 112, 113, 114, 115, 116, 117, 118, 119, 120, 121, 122, 123, 124, 125, 126, 127, 128, 129, 130, 131, 132, 133, 134, 135, 136, 137, 138, 139, 140, 141, 142, 143, 144, 145, 146, 147, 148, 149, 150, 151, 152, 153] rfl (by decide +kernel)
set_option maxRecDepth 20000 in
theorem gX12_night_X12_holdsBy : GoodIn wsX12_night (wsV RX12 391 RX12 yX12_holdsBy wsX12_holdsBy) := goodIn_app (goodIn_r _ [22, 23, 24, 17] rfl (by decide +kernel)) ggX12_night_X12_holdsBy
set_option maxRecDepth 20000 in
theorem ggX12_night_X12_gainOf : GoodIn wsX12_night wsX12_gainOf := goodIn_r _ [82, 6, 7, 8, 9, 83, 26, 34, 35, 12, 36, 37, 38, 39, 27, 28, 29, 17, 30, 31, 32, 33, 40, 41, 42, 43, 44, 45, 46, 47, 48, 49, 50, 51, 52, 3, 53, 54, 55, 56, 57, 58, 59, 60, 61, 62, 63, 64, 65, 66, 67, 68, 69, 70, 71, 72, 73, 74, 75, 76, 77, 78, 88, 89, 90, 91, 92, 93, 94, 95, 96, 97, 98, 99, 100, 101, 102, 103, 104, 105, 106, 107, 108, 109, 110, 111, 112, 113, 114, 115, 116, 117, 118, 119, 120, 121, 122, 123, 124, 125, 126, 127, 128, 129, 130, 131, 132, 133, 134, 135, 136, 137, 138, 139, 140, 141, 142, 143, 144, 145, 146, 147, 148, 149, 150, 151, 152, 153] rfl (by decide +kernel)
set_option maxRecDepth 20000 in
theorem gX12_night_X12_gainOf : GoodIn wsX12_night (wsV RX12 404 RX12 yX12_gainOf wsX12_gainOf) := goodIn_app (goodIn_r _ [79, 80, 81, 17] rfl (by decide +kernel)) ggX12_night_X12_gainOf
set_option maxRecDepth 20000 in
theorem ggX12_night_X12_remembers : GoodIn wsX12_night wsX12_remembers := goodIn_r _ [87, 6, 44, 45, 12, 46, 7, 8, 9, 88, 89, 90, 91, 92, 93, 94, 95, 96, 97, 98, 99, 100, 101, 102, 103, 104, 105, 106, 107, 108, 109, 110, 111, 112, 113, 114, 115, 116, 117, 118, 119, 120, 121, 122, 123, 124, 125, 126, 127, 128, 129, 130, 131, 132, 133, 134, 135, 136, 137, 138, 139, 140, 141, 142, 143, 144, 145, 146, 147, 148, 149, 150, 151, 152, 153] rfl (by decide +kernel)
set_option maxRecDepth 20000 in
theorem gX12_night_X12_remembers : GoodIn wsX12_night (wsV RX12 407 RX12 yX12_remembers wsX12_remembers) := goodIn_app (goodIn_r _ [84, 85, 86, 17] rfl (by decide +kernel)) ggX12_night_X12_remembers
theorem dX12_night_0 : decode cX12_night 0 = .ok (.aload_n 0, 1) := by decide +kernel
theorem dX12_night_1 : decode cX12_night 1 = .ok (.getfield 66, 3) := by decide +kernel
theorem dX12_night_4 : decode cX12_night 4 = .ok (.iload_n 1, 1) := by decide +kernel
theorem dX12_night_5 : decode cX12_night 5 = .ok (.iaload, 1) := by decide +kernel
theorem dX12_night_6 : decode cX12_night 6 = .ok (.istore_n 3, 1) := by decide +kernel
theorem dX12_night_7 : decode cX12_night 7 = .ok (.bipush 8, 2) := by decide +kernel
theorem dX12_night_9 : decode cX12_night 9 = .ok (.iload_n 1, 1) := by decide +kernel
theorem dX12_night_10 : decode cX12_night 10 = .ok (.imul, 1) := by decide +kernel
theorem dX12_night_11 : decode cX12_night 11 = .ok (.iload_n 3, 1) := by decide +kernel
theorem dX12_night_12 : decode cX12_night 12 = .ok (.iadd, 1) := by decide +kernel
theorem dX12_night_13 : decode cX12_night 13 = .ok (.istore 4, 2) := by decide +kernel
theorem dX12_night_15 : decode cX12_night 15 = .ok (.aload_n 0, 1) := by decide +kernel
theorem dX12_night_16 : decode cX12_night 16 = .ok (.getfield 75, 3) := by decide +kernel
theorem dX12_night_19 : decode cX12_night 19 = .ok (.iload_n 1, 1) := by decide +kernel
theorem dX12_night_20 : decode cX12_night 20 = .ok (.iaload, 1) := by decide +kernel
theorem dX12_night_21 : decode cX12_night 21 = .ok (.iconst 1, 1) := by decide +kernel
theorem dX12_night_22 : decode cX12_night 22 = .ok (.if_icmp .ne 82, 3) := by decide +kernel
theorem dX12_night_25 : decode cX12_night 25 = .ok (.iload_n 2, 1) := by decide +kernel
theorem dX12_night_26 : decode cX12_night 26 = .ok (.ifCond .eq 28, 3) := by decide +kernel
theorem dX12_night_29 : decode cX12_night 29 = .ok (.aload_n 0, 1) := by decide +kernel
theorem dX12_night_30 : decode cX12_night 30 = .ok (.iload_n 1, 1) := by decide +kernel
theorem dX12_night_31 : decode cX12_night 31 = .ok (.bipush 100, 2) := by decide +kernel
theorem dX12_night_33 : decode cX12_night 33 = .ok (.invokevirtual 401, 3) := by decide +kernel
theorem dX12_night_36 : decode cX12_night 36 = .ok (.aload_n 0, 1) := by decide +kernel
theorem dX12_night_37 : decode cX12_night 37 = .ok (.getfield 13, 3) := by decide +kernel
theorem dX12_night_40 : decode cX12_night 40 = .ok (.bipush 6, 2) := by decide +kernel
theorem dX12_night_42 : decode cX12_night 42 = .ok (.iaload, 1) := by decide +kernel
theorem dX12_night_43 : decode cX12_night 43 = .ok (.if_icmp .ge 7, 3) := by decide +kernel
theorem dX12_night_46 : decode cX12_night 46 = .ok (.iconst 1, 1) := by decide +kernel
theorem dX12_night_47 : decode cX12_night 47 = .ok (.goto 24, 3) := by decide +kernel
theorem dX12_night_50 : decode cX12_night 50 = .ok (.iconst 0, 1) := by decide +kernel
theorem dX12_night_51 : decode cX12_night 51 = .ok (.goto 20, 3) := by decide +kernel
theorem dX12_night_54 : decode cX12_night 54 = .ok (.aload_n 0, 1) := by decide +kernel
theorem dX12_night_55 : decode cX12_night 55 = .ok (.getfield 13, 3) := by decide +kernel
theorem dX12_night_58 : decode cX12_night 58 = .ok (.bipush 6, 2) := by decide +kernel
theorem dX12_night_60 : decode cX12_night 60 = .ok (.iaload, 1) := by decide +kernel
theorem dX12_night_61 : decode cX12_night 61 = .ok (.bipush 50, 2) := by decide +kernel
theorem dX12_night_63 : decode cX12_night 63 = .ok (.if_icmp .lt 7, 3) := by decide +kernel
theorem dX12_night_66 : decode cX12_night 66 = .ok (.iconst 1, 1) := by decide +kernel
theorem dX12_night_67 : decode cX12_night 67 = .ok (.goto 4, 3) := by decide +kernel
theorem dX12_night_70 : decode cX12_night 70 = .ok (.iconst 0, 1) := by decide +kernel
theorem dX12_night_71 : decode cX12_night 71 = .ok (.istore 5, 2) := by decide +kernel
theorem dX12_night_73 : decode cX12_night 73 = .ok (.iload 5, 2) := by decide +kernel
theorem dX12_night_75 : decode cX12_night 75 = .ok (.ifCond .eq 16, 3) := by decide +kernel
theorem dX12_night_78 : decode cX12_night 78 = .ok (.aload_n 0, 1) := by decide +kernel
theorem dX12_night_79 : decode cX12_night 79 = .ok (.getfield 78, 3) := by decide +kernel
theorem dX12_night_82 : decode cX12_night 82 = .ok (.iload_n 1, 1) := by decide +kernel
theorem dX12_night_83 : decode cX12_night 83 = .ok (.dup2, 1) := by decide +kernel
theorem dX12_night_84 : decode cX12_night 84 = .ok (.iaload, 1) := by decide +kernel
theorem dX12_night_85 : decode cX12_night 85 = .ok (.iconst 1, 1) := by decide +kernel
theorem dX12_night_86 : decode cX12_night 86 = .ok (.iadd, 1) := by decide +kernel
theorem dX12_night_87 : decode cX12_night 87 = .ok (.iastore, 1) := by decide +kernel
theorem dX12_night_88 : decode cX12_night 88 = .ok (.goto 13, 3) := by decide +kernel
theorem dX12_night_91 : decode cX12_night 91 = .ok (.aload_n 0, 1) := by decide +kernel
theorem dX12_night_92 : decode cX12_night 92 = .ok (.getfield 81, 3) := by decide +kernel
theorem dX12_night_95 : decode cX12_night 95 = .ok (.iload_n 1, 1) := by decide +kernel
theorem dX12_night_96 : decode cX12_night 96 = .ok (.dup2, 1) := by decide +kernel
theorem dX12_night_97 : decode cX12_night 97 = .ok (.iaload, 1) := by decide +kernel
theorem dX12_night_98 : decode cX12_night 98 = .ok (.iconst 1, 1) := by decide +kernel
theorem dX12_night_99 : decode cX12_night 99 = .ok (.iadd, 1) := by decide +kernel
theorem dX12_night_100 : decode cX12_night 100 = .ok (.iastore, 1) := by decide +kernel
theorem dX12_night_101 : decode cX12_night 101 = .ok (.goto 93, 3) := by decide +kernel
theorem dX12_night_104 : decode cX12_night 104 = .ok (.aload_n 0, 1) := by decide +kernel
theorem dX12_night_105 : decode cX12_night 105 = .ok (.aload_n 0, 1) := by decide +kernel
theorem dX12_night_106 : decode cX12_night 106 = .ok (.getfield 90, 3) := by decide +kernel
theorem dX12_night_109 : decode cX12_night 109 = .ok (.iload 4, 2) := by decide +kernel
theorem dX12_night_111 : decode cX12_night 111 = .ok (.iaload, 1) := by decide +kernel
theorem dX12_night_112 : decode cX12_night 112 = .ok (.aload_n 0, 1) := by decide +kernel
theorem dX12_night_113 : decode cX12_night 113 = .ok (.getfield 93, 3) := by decide +kernel
theorem dX12_night_116 : decode cX12_night 116 = .ok (.iload 4, 2) := by decide +kernel
theorem dX12_night_118 : decode cX12_night 118 = .ok (.iaload, 1) := by decide +kernel
theorem dX12_night_119 : decode cX12_night 119 = .ok (.aload_n 0, 1) := by decide +kernel
theorem dX12_night_120 : decode cX12_night 120 = .ok (.getfield 96, 3) := by decide +kernel
theorem dX12_night_123 : decode cX12_night 123 = .ok (.iload 4, 2) := by decide +kernel
theorem dX12_night_125 : decode cX12_night 125 = .ok (.iaload, 1) := by decide +kernel
theorem dX12_night_126 : decode cX12_night 126 = .ok (.aload_n 0, 1) := by decide +kernel
theorem dX12_night_127 : decode cX12_night 127 = .ok (.getfield 63, 3) := by decide +kernel
theorem dX12_night_130 : decode cX12_night 130 = .ok (.iload_n 1, 1) := by decide +kernel
theorem dX12_night_131 : decode cX12_night 131 = .ok (.iaload, 1) := by decide +kernel
theorem dX12_night_132 : decode cX12_night 132 = .ok (.iconst 1, 1) := by decide +kernel
theorem dX12_night_133 : decode cX12_night 133 = .ok (.invokevirtual 391, 3) := by decide +kernel
theorem dX12_night_136 : decode cX12_night 136 = .ok (.ifCond .eq 28, 3) := by decide +kernel
theorem dX12_night_139 : decode cX12_night 139 = .ok (.aload_n 0, 1) := by decide +kernel
theorem dX12_night_140 : decode cX12_night 140 = .ok (.getfield 78, 3) := by decide +kernel
theorem dX12_night_143 : decode cX12_night 143 = .ok (.iload_n 1, 1) := by decide +kernel
theorem dX12_night_144 : decode cX12_night 144 = .ok (.dup2, 1) := by decide +kernel
theorem dX12_night_145 : decode cX12_night 145 = .ok (.iaload, 1) := by decide +kernel
theorem dX12_night_146 : decode cX12_night 146 = .ok (.iconst 1, 1) := by decide +kernel
theorem dX12_night_147 : decode cX12_night 147 = .ok (.iadd, 1) := by decide +kernel
theorem dX12_night_148 : decode cX12_night 148 = .ok (.iastore, 1) := by decide +kernel
theorem dX12_night_149 : decode cX12_night 149 = .ok (.aload_n 0, 1) := by decide +kernel
theorem dX12_night_150 : decode cX12_night 150 = .ok (.iload_n 1, 1) := by decide +kernel
theorem dX12_night_151 : decode cX12_night 151 = .ok (.iload_n 3, 1) := by decide +kernel
theorem dX12_night_152 : decode cX12_night 152 = .ok (.aload_n 0, 1) := by decide +kernel
theorem dX12_night_153 : decode cX12_night 153 = .ok (.iload_n 1, 1) := by decide +kernel
theorem dX12_night_154 : decode cX12_night 154 = .ok (.iload_n 3, 1) := by decide +kernel
theorem dX12_night_155 : decode cX12_night 155 = .ok (.invokevirtual 404, 3) := by decide +kernel
theorem dX12_night_158 : decode cX12_night 158 = .ok (.invokevirtual 407, 3) := by decide +kernel
theorem dX12_night_161 : decode cX12_night 161 = .ok (.goto 33, 3) := by decide +kernel
theorem dX12_night_164 : decode cX12_night 164 = .ok (.aload_n 0, 1) := by decide +kernel
theorem dX12_night_165 : decode cX12_night 165 = .ok (.getfield 81, 3) := by decide +kernel
theorem dX12_night_168 : decode cX12_night 168 = .ok (.iload_n 1, 1) := by decide +kernel
theorem dX12_night_169 : decode cX12_night 169 = .ok (.dup2, 1) := by decide +kernel
theorem dX12_night_170 : decode cX12_night 170 = .ok (.iaload, 1) := by decide +kernel
theorem dX12_night_171 : decode cX12_night 171 = .ok (.iconst 1, 1) := by decide +kernel
theorem dX12_night_172 : decode cX12_night 172 = .ok (.iadd, 1) := by decide +kernel
theorem dX12_night_173 : decode cX12_night 173 = .ok (.iastore, 1) := by decide +kernel
theorem dX12_night_174 : decode cX12_night 174 = .ok (.aload_n 0, 1) := by decide +kernel
theorem dX12_night_175 : decode cX12_night 175 = .ok (.getfield 90, 3) := by decide +kernel
theorem dX12_night_178 : decode cX12_night 178 = .ok (.iload 4, 2) := by decide +kernel
theorem dX12_night_180 : decode cX12_night 180 = .ok (.iconst 0, 1) := by decide +kernel
theorem dX12_night_181 : decode cX12_night 181 = .ok (.aload_n 0, 1) := by decide +kernel
theorem dX12_night_182 : decode cX12_night 182 = .ok (.getfield 90, 3) := by decide +kernel
theorem dX12_night_185 : decode cX12_night 185 = .ok (.iload 4, 2) := by decide +kernel
theorem dX12_night_187 : decode cX12_night 187 = .ok (.iaload, 1) := by decide +kernel
theorem dX12_night_188 : decode cX12_night 188 = .ok (.iconst 2, 1) := by decide +kernel
theorem dX12_night_189 : decode cX12_night 189 = .ok (.isub, 1) := by decide +kernel
theorem dX12_night_190 : decode cX12_night 190 = .ok (.invokestatic 385, 3) := by decide +kernel
theorem dX12_night_193 : decode cX12_night 193 = .ok (.iastore, 1) := by decide +kernel
theorem dX12_night_194 : decode cX12_night 194 = .ok (.return_, 1) := by decide +kernel
set_option maxRecDepth 20000 in
theorem ggX12_passes_X12_joyIn : GoodIn wsX12_passes wsX12_joyIn := goodIn_r _ [15, 4, 16, 17, 18, 105, 106, 107, 108, 109, 110, 111, 112, 113, 114, 115, 116, 117, 118, 119, 120, 121, 122, 123, 124, 125, 126, 127, 128, 129, 130, 131, 132, 133, 134, 135, 136, 137, 138, 139, 140, 141, 142, 143, 144, 145, 146, 147, 148, 149, 150, 151, 152, 153, 154, 155, 156, 157, 158, 159, 160, 161, 162, 163, 164, 165, 166, 167, 168, 169, 170] rfl (by decide +kernel)
set_option maxRecDepth 20000 in
theorem gX12_passes_X12_joyIn : GoodIn wsX12_passes (wsV RX12 382 RX12 yX12_joyIn wsX12_joyIn) := goodIn_app (goodIn_r _ [11, 12, 13, 14] rfl (by decide +kernel)) ggX12_passes_X12_joyIn
set_option maxRecDepth 20000 in
theorem ggX12_passes_X12_remembers : GoodIn wsX12_passes wsX12_remembers := goodIn_r _ [22, 23, 24, 25, 26, 27, 28, 29, 3, 105, 106, 107, 108, 109, 110, 111, 112, 113, 114, 115, 116, 117, 118, 119, 120, 121, 122, 123, 124, 125, 126, 127, 128, 129, 130, 131, 132, 133, 134, 135, 136, 137, 138, 139, 140, 141, 142, 143, 144, 145, 146, 147, 148, 149, 150, 151, 152, 153, 154, 155, 156, 157, 158, 159, 160, 161, 162, 163, 164, 165, 166, 167, 168, 169, 170] rfl (by decide +kernel)
set_option maxRecDepth 20000 in
theorem gX12_passes_X12_remembers : GoodIn wsX12_passes (wsV RX12 407 RX12 yX12_remembers wsX12_remembers) := goodIn_app (goodIn_r _ [19, 20, 21, 14] rfl (by decide +kernel)) ggX12_passes_X12_remembers
set_option maxRecDepth 20000 in
theorem ggX12_passes_X12_night : GoodIn wsX12_passes wsX12_night := goodIn_r _ [33, 9, 34, 1, 35, 36, 23, 28, 29, 3, 37, 38, 26, 39, 40, 41, 42, 14, 43, 44, 45, 46, 47, 48, 49, 50, 51, 52, 53, 54, 55, 56, 57, 58, 59, 60, 61, 62, 63, 64, 65, 66, 67, 68, 24, 25, 27, 69, 70, 71, 72, 4, 73, 74, 75, 76, 77, 78, 79, 80, 81, 82, 83, 84, 85, 86, 87, 88, 89, 90, 91, 92, 93, 94, 95, 96, 97, 98, 99, 100, 101, 102, 103, 104, 19, 20, 21, 22, 105, 106, 107, 108, 109, 110, 111, 112, 113, 114, 115, 116, 117, 118, 119, 120, 121, 122, 123, 124, 125, 126, 127, 128, 129, 130, 131, 132, 133, 134, 135, 136, 137, 138, 139, 140, 141, 142, 143, 144, 145, 146, 147, 148, 149, 150, 151, 152, 153, 154, 155, 156, 157, 158, 159, 160, 161, 162, 163, 164, 165, 166, 167, 168, 169, 170] rfl (by decide +kernel)
set_option maxRecDepth 20000 in
theorem gX12_passes_X12_night : GoodIn wsX12_passes (wsV RX12 411 RX12 yX12_night wsX12_night) := goodIn_app (goodIn_r _ [30, 31, 32, 14] rfl (by decide +kernel)) ggX12_passes_X12_night
theorem dX12_passes_0 : decode cX12_passes 0 = .ok (.iconst 0, 1) := by decide +kernel
theorem dX12_passes_1 : decode cX12_passes 1 = .ok (.istore_n 3, 1) := by decide +kernel
theorem dX12_passes_2 : decode cX12_passes 2 = .ok (.iload_n 3, 1) := by decide +kernel
theorem dX12_passes_3 : decode cX12_passes 3 = .ok (.aload_n 0, 1) := by decide +kernel
theorem dX12_passes_4 : decode cX12_passes 4 = .ok (.getfield 13, 3) := by decide +kernel
theorem dX12_passes_7 : decode cX12_passes 7 = .ok (.iconst 2, 1) := by decide +kernel
theorem dX12_passes_8 : decode cX12_passes 8 = .ok (.iaload, 1) := by decide +kernel
theorem dX12_passes_9 : decode cX12_passes 9 = .ok (.if_icmp .ge 56, 3) := by decide +kernel
theorem dX12_passes_12 : decode cX12_passes 12 = .ok (.aload_n 0, 1) := by decide +kernel
theorem dX12_passes_13 : decode cX12_passes 13 = .ok (.getfield 31, 3) := by decide +kernel
theorem dX12_passes_16 : decode cX12_passes 16 = .ok (.iload_n 3, 1) := by decide +kernel
theorem dX12_passes_17 : decode cX12_passes 17 = .ok (.iaload, 1) := by decide +kernel
theorem dX12_passes_18 : decode cX12_passes 18 = .ok (.aload_n 0, 1) := by decide +kernel
theorem dX12_passes_19 : decode cX12_passes 19 = .ok (.getfield 63, 3) := by decide +kernel
theorem dX12_passes_22 : decode cX12_passes 22 = .ok (.iload_n 1, 1) := by decide +kernel
theorem dX12_passes_23 : decode cX12_passes 23 = .ok (.iaload, 1) := by decide +kernel
theorem dX12_passes_24 : decode cX12_passes 24 = .ok (.if_icmp .ne 35, 3) := by decide +kernel
theorem dX12_passes_27 : decode cX12_passes 27 = .ok (.aload_n 0, 1) := by decide +kernel
theorem dX12_passes_28 : decode cX12_passes 28 = .ok (.getfield 334, 3) := by decide +kernel
theorem dX12_passes_31 : decode cX12_passes 31 = .ok (.iconst 2, 1) := by decide +kernel
theorem dX12_passes_32 : decode cX12_passes 32 = .ok (.if_icmp .ne 11, 3) := by decide +kernel
theorem dX12_passes_35 : decode cX12_passes 35 = .ok (.iload_n 3, 1) := by decide +kernel
theorem dX12_passes_36 : decode cX12_passes 36 = .ok (.aload_n 0, 1) := by decide +kernel
theorem dX12_passes_37 : decode cX12_passes 37 = .ok (.getfield 99, 3) := by decide +kernel
theorem dX12_passes_40 : decode cX12_passes 40 = .ok (.if_icmp .eq 19, 3) := by decide +kernel
theorem dX12_passes_43 : decode cX12_passes 43 = .ok (.aload_n 0, 1) := by decide +kernel
theorem dX12_passes_44 : decode cX12_passes 44 = .ok (.iload_n 1, 1) := by decide +kernel
theorem dX12_passes_45 : decode cX12_passes 45 = .ok (.aload_n 0, 1) := by decide +kernel
theorem dX12_passes_46 : decode cX12_passes 46 = .ok (.getfield 28, 3) := by decide +kernel
theorem dX12_passes_49 : decode cX12_passes 49 = .ok (.iload_n 3, 1) := by decide +kernel
theorem dX12_passes_50 : decode cX12_passes 50 = .ok (.iaload, 1) := by decide +kernel
theorem dX12_passes_51 : decode cX12_passes 51 = .ok (.aload_n 0, 1) := by decide +kernel
theorem dX12_passes_52 : decode cX12_passes 52 = .ok (.iload_n 3, 1) := by decide +kernel
theorem dX12_passes_53 : decode cX12_passes 53 = .ok (.invokevirtual 382, 3) := by decide +kernel
theorem dX12_passes_56 : decode cX12_passes 56 = .ok (.invokevirtual 407, 3) := by decide +kernel
theorem dX12_passes_59 : decode cX12_passes 59 = .ok (.iinc 3 1, 3) := by decide +kernel
theorem dX12_passes_62 : decode cX12_passes 62 = .ok (.goto (-60), 3) := by decide +kernel
theorem dX12_passes_65 : decode cX12_passes 65 = .ok (.aload_n 0, 1) := by decide +kernel
theorem dX12_passes_66 : decode cX12_passes 66 = .ok (.getfield 72, 3) := by decide +kernel
theorem dX12_passes_69 : decode cX12_passes 69 = .ok (.iload_n 1, 1) := by decide +kernel
theorem dX12_passes_70 : decode cX12_passes 70 = .ok (.iaload, 1) := by decide +kernel
theorem dX12_passes_71 : decode cX12_passes 71 = .ok (.aload_n 0, 1) := by decide +kernel
theorem dX12_passes_72 : decode cX12_passes 72 = .ok (.getfield 63, 3) := by decide +kernel
theorem dX12_passes_75 : decode cX12_passes 75 = .ok (.iload_n 1, 1) := by decide +kernel
theorem dX12_passes_76 : decode cX12_passes 76 = .ok (.iaload, 1) := by decide +kernel
theorem dX12_passes_77 : decode cX12_passes 77 = .ok (.if_icmp .ne 39, 3) := by decide +kernel
theorem dX12_passes_80 : decode cX12_passes 80 = .ok (.aload_n 0, 1) := by decide +kernel
theorem dX12_passes_81 : decode cX12_passes 81 = .ok (.getfield 69, 3) := by decide +kernel
theorem dX12_passes_84 : decode cX12_passes 84 = .ok (.iload_n 1, 1) := by decide +kernel
theorem dX12_passes_85 : decode cX12_passes 85 = .ok (.iaload, 1) := by decide +kernel
theorem dX12_passes_86 : decode cX12_passes 86 = .ok (.iconst (-1), 1) := by decide +kernel
theorem dX12_passes_87 : decode cX12_passes 87 = .ok (.if_icmp .eq 29, 3) := by decide +kernel
theorem dX12_passes_90 : decode cX12_passes 90 = .ok (.aload_n 0, 1) := by decide +kernel
theorem dX12_passes_91 : decode cX12_passes 91 = .ok (.getfield 66, 3) := by decide +kernel
theorem dX12_passes_94 : decode cX12_passes 94 = .ok (.iload_n 1, 1) := by decide +kernel
theorem dX12_passes_95 : decode cX12_passes 95 = .ok (.aload_n 0, 1) := by decide +kernel
theorem dX12_passes_96 : decode cX12_passes 96 = .ok (.getfield 69, 3) := by decide +kernel
theorem dX12_passes_99 : decode cX12_passes 99 = .ok (.iload_n 1, 1) := by decide +kernel
theorem dX12_passes_100 : decode cX12_passes 100 = .ok (.iaload, 1) := by decide +kernel
theorem dX12_passes_101 : decode cX12_passes 101 = .ok (.iastore, 1) := by decide +kernel
theorem dX12_passes_102 : decode cX12_passes 102 = .ok (.aload_n 0, 1) := by decide +kernel
theorem dX12_passes_103 : decode cX12_passes 103 = .ok (.getfield 69, 3) := by decide +kernel
theorem dX12_passes_106 : decode cX12_passes 106 = .ok (.iload_n 1, 1) := by decide +kernel
theorem dX12_passes_107 : decode cX12_passes 107 = .ok (.iconst (-1), 1) := by decide +kernel
theorem dX12_passes_108 : decode cX12_passes 108 = .ok (.iastore, 1) := by decide +kernel
theorem dX12_passes_109 : decode cX12_passes 109 = .ok (.aload_n 0, 1) := by decide +kernel
theorem dX12_passes_110 : decode cX12_passes 110 = .ok (.getfield 72, 3) := by decide +kernel
theorem dX12_passes_113 : decode cX12_passes 113 = .ok (.iload_n 1, 1) := by decide +kernel
theorem dX12_passes_114 : decode cX12_passes 114 = .ok (.iconst (-1), 1) := by decide +kernel
theorem dX12_passes_115 : decode cX12_passes 115 = .ok (.iastore, 1) := by decide +kernel
theorem dX12_passes_116 : decode cX12_passes 116 = .ok (.aload_n 0, 1) := by decide +kernel
theorem dX12_passes_117 : decode cX12_passes 117 = .ok (.getfield 69, 3) := by decide +kernel
theorem dX12_passes_120 : decode cX12_passes 120 = .ok (.iload_n 1, 1) := by decide +kernel
theorem dX12_passes_121 : decode cX12_passes 121 = .ok (.iaload, 1) := by decide +kernel
theorem dX12_passes_122 : decode cX12_passes 122 = .ok (.iconst (-1), 1) := by decide +kernel
theorem dX12_passes_123 : decode cX12_passes 123 = .ok (.if_icmp .eq 16, 3) := by decide +kernel
theorem dX12_passes_126 : decode cX12_passes 126 = .ok (.aload_n 0, 1) := by decide +kernel
theorem dX12_passes_127 : decode cX12_passes 127 = .ok (.getfield 84, 3) := by decide +kernel
theorem dX12_passes_130 : decode cX12_passes 130 = .ok (.iload_n 1, 1) := by decide +kernel
theorem dX12_passes_131 : decode cX12_passes 131 = .ok (.dup2, 1) := by decide +kernel
theorem dX12_passes_132 : decode cX12_passes 132 = .ok (.iaload, 1) := by decide +kernel
theorem dX12_passes_133 : decode cX12_passes 133 = .ok (.iconst 1, 1) := by decide +kernel
theorem dX12_passes_134 : decode cX12_passes 134 = .ok (.iadd, 1) := by decide +kernel
theorem dX12_passes_135 : decode cX12_passes 135 = .ok (.iastore, 1) := by decide +kernel
theorem dX12_passes_136 : decode cX12_passes 136 = .ok (.goto 19, 3) := by decide +kernel
theorem dX12_passes_139 : decode cX12_passes 139 = .ok (.aload_n 0, 1) := by decide +kernel
theorem dX12_passes_140 : decode cX12_passes 140 = .ok (.getfield 66, 3) := by decide +kernel
theorem dX12_passes_143 : decode cX12_passes 143 = .ok (.iload_n 1, 1) := by decide +kernel
theorem dX12_passes_144 : decode cX12_passes 144 = .ok (.iaload, 1) := by decide +kernel
theorem dX12_passes_145 : decode cX12_passes 145 = .ok (.iconst (-1), 1) := by decide +kernel
theorem dX12_passes_146 : decode cX12_passes 146 = .ok (.if_icmp .eq 9, 3) := by decide +kernel
theorem dX12_passes_149 : decode cX12_passes 149 = .ok (.aload_n 0, 1) := by decide +kernel
theorem dX12_passes_150 : decode cX12_passes 150 = .ok (.iload_n 1, 1) := by decide +kernel
theorem dX12_passes_151 : decode cX12_passes 151 = .ok (.iload_n 2, 1) := by decide +kernel
theorem dX12_passes_152 : decode cX12_passes 152 = .ok (.invokevirtual 411, 3) := by decide +kernel
theorem dX12_passes_155 : decode cX12_passes 155 = .ok (.aload_n 0, 1) := by decide +kernel
theorem dX12_passes_156 : decode cX12_passes 156 = .ok (.getfield 63, 3) := by decide +kernel
theorem dX12_passes_159 : decode cX12_passes 159 = .ok (.iload_n 1, 1) := by decide +kernel
theorem dX12_passes_160 : decode cX12_passes 160 = .ok (.dup2, 1) := by decide +kernel
theorem dX12_passes_161 : decode cX12_passes 161 = .ok (.iaload, 1) := by decide +kernel
theorem dX12_passes_162 : decode cX12_passes 162 = .ok (.iconst 1, 1) := by decide +kernel
theorem dX12_passes_163 : decode cX12_passes 163 = .ok (.iadd, 1) := by decide +kernel
theorem dX12_passes_164 : decode cX12_passes 164 = .ok (.iastore, 1) := by decide +kernel
theorem dX12_passes_165 : decode cX12_passes 165 = .ok (.return_, 1) := by decide +kernel
set_option maxRecDepth 20000 in
theorem ggX12_bay_X12_isBay : GoodIn wsX12_bay wsX12_isBay := goodIn_r _ [16, 17, 18, 19, 20, 21, 22, 23, 24, 25, 26, 27, 28, 29, 30, 31, 32, 33, 34, 35, 36, 37, 38, 39, 40, 41, 42, 43, 44, 45, 46, 47, 48, 49, 50, 51, 52, 53, 54, 55, 56, 57, 58, 59, 60, 61, 62, 63, 64, 65, 66, 67, 68, 69, 70, 71, 72, 73, 74, 75, 76, 77, 78, 79, 80, 81, 82, 83] rfl (by decide +kernel)
set_option maxRecDepth 20000 in
theorem gX12_bay_X12_isBay : GoodIn wsX12_bay (wsV RX12 415 RX12 yX12_isBay wsX12_isBay) := goodIn_app (goodIn_r _ [12, 13, 14, 15] rfl (by decide +kernel)) ggX12_bay_X12_isBay
theorem dX12_bay_0 : decode cX12_bay 0 = .ok (.aload_n 0, 1) := by decide +kernel
theorem dX12_bay_1 : decode cX12_bay 1 = .ok (.aload_n 0, 1) := by decide +kernel
theorem dX12_bay_2 : decode cX12_bay 2 = .ok (.iload_n 1, 1) := by decide +kernel
theorem dX12_bay_3 : decode cX12_bay 3 = .ok (.invokevirtual 415, 3) := by decide +kernel
theorem dX12_bay_6 : decode cX12_bay 6 = .ok (.ifCond .ne 7, 3) := by decide +kernel
theorem dX12_bay_9 : decode cX12_bay 9 = .ok (.iconst 1, 1) := by decide +kernel
theorem dX12_bay_10 : decode cX12_bay 10 = .ok (.goto 17, 3) := by decide +kernel
theorem dX12_bay_13 : decode cX12_bay 13 = .ok (.iload_n 2, 1) := by decide +kernel
theorem dX12_bay_14 : decode cX12_bay 14 = .ok (.ifCond .lt 8, 3) := by decide +kernel
theorem dX12_bay_17 : decode cX12_bay 17 = .ok (.iload_n 2, 1) := by decide +kernel
theorem dX12_bay_18 : decode cX12_bay 18 = .ok (.iconst 3, 1) := by decide +kernel
theorem dX12_bay_19 : decode cX12_bay 19 = .ok (.if_icmp .le 7, 3) := by decide +kernel
theorem dX12_bay_22 : decode cX12_bay 22 = .ok (.iconst 2, 1) := by decide +kernel
theorem dX12_bay_23 : decode cX12_bay 23 = .ok (.goto 4, 3) := by decide +kernel
theorem dX12_bay_26 : decode cX12_bay 26 = .ok (.iconst 0, 1) := by decide +kernel
theorem dX12_bay_27 : decode cX12_bay 27 = .ok (.putfield 145, 3) := by decide +kernel
theorem dX12_bay_30 : decode cX12_bay 30 = .ok (.aload_n 0, 1) := by decide +kernel
theorem dX12_bay_31 : decode cX12_bay 31 = .ok (.getfield 145, 3) := by decide +kernel
theorem dX12_bay_34 : decode cX12_bay 34 = .ok (.ifCond .eq 5, 3) := by decide +kernel
theorem dX12_bay_37 : decode cX12_bay 37 = .ok (.iconst 0, 1) := by decide +kernel
theorem dX12_bay_38 : decode cX12_bay 38 = .ok (.ireturn, 1) := by decide +kernel
theorem dX12_bay_39 : decode cX12_bay 39 = .ok (.iload_n 2, 1) := by decide +kernel
theorem dX12_bay_40 : decode cX12_bay 40 = .ok (.tableswitch 76 0 2 #[28, 35, 69], 28) := by decide +kernel
theorem dX12_bay_68 : decode cX12_bay 68 = .ok (.aload_n 0, 1) := by decide +kernel
theorem dX12_bay_69 : decode cX12_bay 69 = .ok (.getfield 90, 3) := by decide +kernel
theorem dX12_bay_72 : decode cX12_bay 72 = .ok (.iload_n 1, 1) := by decide +kernel
theorem dX12_bay_73 : decode cX12_bay 73 = .ok (.iaload, 1) := by decide +kernel
theorem dX12_bay_74 : decode cX12_bay 74 = .ok (.ireturn, 1) := by decide +kernel
theorem dX12_bay_75 : decode cX12_bay 75 = .ok (.aload_n 0, 1) := by decide +kernel
theorem dX12_bay_76 : decode cX12_bay 76 = .ok (.getfield 96, 3) := by decide +kernel
theorem dX12_bay_79 : decode cX12_bay 79 = .ok (.iload_n 1, 1) := by decide +kernel
theorem dX12_bay_80 : decode cX12_bay 80 = .ok (.iaload, 1) := by decide +kernel
theorem dX12_bay_81 : decode cX12_bay 81 = .ok (.iconst (-1), 1) := by decide +kernel
theorem dX12_bay_82 : decode cX12_bay 82 = .ok (.if_icmp .ne 8, 3) := by decide +kernel
theorem dX12_bay_85 : decode cX12_bay 85 = .ok (.bipush 99, 2) := by decide +kernel
theorem dX12_bay_87 : decode cX12_bay 87 = .ok (.goto 21, 3) := by decide +kernel
theorem dX12_bay_90 : decode cX12_bay 90 = .ok (.bipush 99, 2) := by decide +kernel
theorem dX12_bay_92 : decode cX12_bay 92 = .ok (.aload_n 0, 1) := by decide +kernel
theorem dX12_bay_93 : decode cX12_bay 93 = .ok (.getfield 63, 3) := by decide +kernel
theorem dX12_bay_96 : decode cX12_bay 96 = .ok (.iconst 0, 1) := by decide +kernel
theorem dX12_bay_97 : decode cX12_bay 97 = .ok (.iaload, 1) := by decide +kernel
theorem dX12_bay_98 : decode cX12_bay 98 = .ok (.aload_n 0, 1) := by decide +kernel
theorem dX12_bay_99 : decode cX12_bay 99 = .ok (.getfield 96, 3) := by decide +kernel
theorem dX12_bay_102 : decode cX12_bay 102 = .ok (.iload_n 1, 1) := by decide +kernel
theorem dX12_bay_103 : decode cX12_bay 103 = .ok (.iaload, 1) := by decide +kernel
theorem dX12_bay_104 : decode cX12_bay 104 = .ok (.isub, 1) := by decide +kernel
theorem dX12_bay_105 : decode cX12_bay 105 = .ok (.invokestatic 340, 3) := by decide +kernel
theorem dX12_bay_108 : decode cX12_bay 108 = .ok (.ireturn, 1) := by decide +kernel
theorem dX12_bay_109 : decode cX12_bay 109 = .ok (.aload_n 0, 1) := by decide +kernel
theorem dX12_bay_110 : decode cX12_bay 110 = .ok (.getfield 93, 3) := by decide +kernel
theorem dX12_bay_113 : decode cX12_bay 113 = .ok (.iload_n 1, 1) := by decide +kernel
theorem dX12_bay_114 : decode cX12_bay 114 = .ok (.iaload, 1) := by decide +kernel
theorem dX12_bay_115 : decode cX12_bay 115 = .ok (.ireturn, 1) := by decide +kernel
theorem dX12_bay_116 : decode cX12_bay 116 = .ok (.aload_n 0, 1) := by decide +kernel
theorem dX12_bay_117 : decode cX12_bay 117 = .ok (.getfield 69, 3) := by decide +kernel
theorem dX12_bay_120 : decode cX12_bay 120 = .ok (.iconst 0, 1) := by decide +kernel
theorem dX12_bay_121 : decode cX12_bay 121 = .ok (.iaload, 1) := by decide +kernel
theorem dX12_bay_122 : decode cX12_bay 122 = .ok (.iconst (-1), 1) := by decide +kernel
theorem dX12_bay_123 : decode cX12_bay 123 = .ok (.if_icmp .ne 17, 3) := by decide +kernel
theorem dX12_bay_126 : decode cX12_bay 126 = .ok (.aload_n 0, 1) := by decide +kernel
theorem dX12_bay_127 : decode cX12_bay 127 = .ok (.getfield 66, 3) := by decide +kernel
theorem dX12_bay_130 : decode cX12_bay 130 = .ok (.iconst 0, 1) := by decide +kernel
theorem dX12_bay_131 : decode cX12_bay 131 = .ok (.iaload, 1) := by decide +kernel
theorem dX12_bay_132 : decode cX12_bay 132 = .ok (.iload_n 1, 1) := by decide +kernel
theorem dX12_bay_133 : decode cX12_bay 133 = .ok (.if_icmp .ne 7, 3) := by decide +kernel
theorem dX12_bay_136 : decode cX12_bay 136 = .ok (.iconst 1, 1) := by decide +kernel
theorem dX12_bay_137 : decode cX12_bay 137 = .ok (.goto 4, 3) := by decide +kernel
theorem dX12_bay_140 : decode cX12_bay 140 = .ok (.iconst 0, 1) := by decide +kernel
theorem dX12_bay_141 : decode cX12_bay 141 = .ok (.ireturn, 1) := by decide +kernel
theorem dX12_laneOf_0 : decode cX12_laneOf 0 = .ok (.iconst 0, 1) := by decide +kernel
theorem dX12_laneOf_1 : decode cX12_laneOf 1 = .ok (.istore_n 3, 1) := by decide +kernel
theorem dX12_laneOf_2 : decode cX12_laneOf 2 = .ok (.iload_n 3, 1) := by decide +kernel
theorem dX12_laneOf_3 : decode cX12_laneOf 3 = .ok (.aload_n 0, 1) := by decide +kernel
theorem dX12_laneOf_4 : decode cX12_laneOf 4 = .ok (.getfield 13, 3) := by decide +kernel
theorem dX12_laneOf_7 : decode cX12_laneOf 7 = .ok (.iconst 1, 1) := by decide +kernel
theorem dX12_laneOf_8 : decode cX12_laneOf 8 = .ok (.iaload, 1) := by decide +kernel
theorem dX12_laneOf_9 : decode cX12_laneOf 9 = .ok (.if_icmp .ge 56, 3) := by decide +kernel
theorem dX12_laneOf_12 : decode cX12_laneOf 12 = .ok (.aload_n 0, 1) := by decide +kernel
theorem dX12_laneOf_13 : decode cX12_laneOf 13 = .ok (.getfield 19, 3) := by decide +kernel
theorem dX12_laneOf_16 : decode cX12_laneOf 16 = .ok (.iload_n 3, 1) := by decide +kernel
theorem dX12_laneOf_17 : decode cX12_laneOf 17 = .ok (.iaload, 1) := by decide +kernel
theorem dX12_laneOf_18 : decode cX12_laneOf 18 = .ok (.iload_n 1, 1) := by decide +kernel
theorem dX12_laneOf_19 : decode cX12_laneOf 19 = .ok (.if_icmp .ne 13, 3) := by decide +kernel
theorem dX12_laneOf_22 : decode cX12_laneOf 22 = .ok (.aload_n 0, 1) := by decide +kernel
theorem dX12_laneOf_23 : decode cX12_laneOf 23 = .ok (.getfield 22, 3) := by decide +kernel
theorem dX12_laneOf_26 : decode cX12_laneOf 26 = .ok (.iload_n 3, 1) := by decide +kernel
theorem dX12_laneOf_27 : decode cX12_laneOf 27 = .ok (.iaload, 1) := by decide +kernel
theorem dX12_laneOf_28 : decode cX12_laneOf 28 = .ok (.iload_n 2, 1) := by decide +kernel
theorem dX12_laneOf_29 : decode cX12_laneOf 29 = .ok (.if_icmp .eq 23, 3) := by decide +kernel
theorem dX12_laneOf_32 : decode cX12_laneOf 32 = .ok (.aload_n 0, 1) := by decide +kernel
theorem dX12_laneOf_33 : decode cX12_laneOf 33 = .ok (.getfield 19, 3) := by decide +kernel
theorem dX12_laneOf_36 : decode cX12_laneOf 36 = .ok (.iload_n 3, 1) := by decide +kernel
theorem dX12_laneOf_37 : decode cX12_laneOf 37 = .ok (.iaload, 1) := by decide +kernel
theorem dX12_laneOf_38 : decode cX12_laneOf 38 = .ok (.iload_n 2, 1) := by decide +kernel
theorem dX12_laneOf_39 : decode cX12_laneOf 39 = .ok (.if_icmp .ne 20, 3) := by decide +kernel
theorem dX12_laneOf_42 : decode cX12_laneOf 42 = .ok (.aload_n 0, 1) := by decide +kernel
theorem dX12_laneOf_43 : decode cX12_laneOf 43 = .ok (.getfield 22, 3) := by decide +kernel
theorem dX12_laneOf_46 : decode cX12_laneOf 46 = .ok (.iload_n 3, 1) := by decide +kernel
theorem dX12_laneOf_47 : decode cX12_laneOf 47 = .ok (.iaload, 1) := by decide +kernel
theorem dX12_laneOf_48 : decode cX12_laneOf 48 = .ok (.iload_n 1, 1) := by decide +kernel
theorem dX12_laneOf_49 : decode cX12_laneOf 49 = .ok (.if_icmp .ne 10, 3) := by decide +kernel
theorem dX12_laneOf_52 : decode cX12_laneOf 52 = .ok (.aload_n 0, 1) := by decide +kernel
theorem dX12_laneOf_53 : decode cX12_laneOf 53 = .ok (.getfield 25, 3) := by decide +kernel
theorem dX12_laneOf_56 : decode cX12_laneOf 56 = .ok (.iload_n 3, 1) := by decide +kernel
theorem dX12_laneOf_57 : decode cX12_laneOf 57 = .ok (.iaload, 1) := by decide +kernel
theorem dX12_laneOf_58 : decode cX12_laneOf 58 = .ok (.ireturn, 1) := by decide +kernel
theorem dX12_laneOf_59 : decode cX12_laneOf 59 = .ok (.iinc 3 1, 3) := by decide +kernel
theorem dX12_laneOf_62 : decode cX12_laneOf 62 = .ok (.goto (-60), 3) := by decide +kernel
theorem dX12_laneOf_65 : decode cX12_laneOf 65 = .ok (.iconst 0, 1) := by decide +kernel
theorem dX12_laneOf_66 : decode cX12_laneOf 66 = .ok (.ireturn, 1) := by decide +kernel
set_option maxRecDepth 20000 in
theorem ggX12_lane_X12_isBay : GoodIn wsX12_lane wsX12_isBay := goodIn_r _ [6, 7, 15, 16, 17, 18, 19, 20, 21, 22, 23, 24, 25, 26, 27, 28, 29, 30, 31, 32, 33, 34, 35, 36, 37, 38, 39, 40, 41, 42, 43, 44, 45, 46, 47, 48, 49, 50, 51, 52, 53, 54, 55, 56, 57, 58, 59, 60, 61, 62, 63, 64, 65, 66, 67, 68, 69, 70, 71, 72, 73, 74, 75, 76, 77, 78, 79, 80] rfl (by decide +kernel)
set_option maxRecDepth 20000 in
theorem gX12_lane_X12_isBay : GoodIn wsX12_lane (wsV RX12 415 RX12 yX12_isBay wsX12_isBay) := goodIn_app (goodIn_r _ [2, 3, 4, 5] rfl (by decide +kernel)) ggX12_lane_X12_isBay
set_option maxRecDepth 20000 in
theorem ggX12_lane_X12_laneOf : GoodIn wsX12_lane wsX12_laneOf := goodIn_r _ [11, 7, 12, 13, 14, 15, 16, 17, 18, 19, 20, 21, 22, 23, 24, 25, 26, 27, 28, 29, 30, 31, 32, 33, 34, 35, 36, 37, 38, 39, 40, 41, 42, 43, 44, 45, 46, 47, 48, 49, 50, 51, 52, 53, 54, 55, 56, 57, 58, 59, 60, 61, 62, 63, 64, 65, 66, 67, 68, 69, 70, 71, 72, 73, 74, 75, 76, 77, 78, 79, 80] rfl (by decide +kernel)
set_option maxRecDepth 20000 in
theorem gX12_lane_X12_laneOf : GoodIn wsX12_lane (wsV RX12 418 RX12 yX12_laneOf wsX12_laneOf) := goodIn_app (goodIn_r _ [8, 9, 10, 5] rfl (by decide +kernel)) ggX12_lane_X12_laneOf
theorem dX12_lane_0 : decode cX12_lane 0 = .ok (.aload_n 0, 1) := by decide +kernel
theorem dX12_lane_1 : decode cX12_lane 1 = .ok (.iconst 0, 1) := by decide +kernel
theorem dX12_lane_2 : decode cX12_lane 2 = .ok (.putfield 145, 3) := by decide +kernel
theorem dX12_lane_5 : decode cX12_lane 5 = .ok (.aload_n 0, 1) := by decide +kernel
theorem dX12_lane_6 : decode cX12_lane 6 = .ok (.iload_n 1, 1) := by decide +kernel
theorem dX12_lane_7 : decode cX12_lane 7 = .ok (.invokevirtual 415, 3) := by decide +kernel
theorem dX12_lane_10 : decode cX12_lane 10 = .ok (.ifCond .eq 20, 3) := by decide +kernel
theorem dX12_lane_13 : decode cX12_lane 13 = .ok (.aload_n 0, 1) := by decide +kernel
theorem dX12_lane_14 : decode cX12_lane 14 = .ok (.iload_n 2, 1) := by decide +kernel
theorem dX12_lane_15 : decode cX12_lane 15 = .ok (.invokevirtual 415, 3) := by decide +kernel
theorem dX12_lane_18 : decode cX12_lane 18 = .ok (.ifCond .eq 12, 3) := by decide +kernel
theorem dX12_lane_21 : decode cX12_lane 21 = .ok (.aload_n 0, 1) := by decide +kernel
theorem dX12_lane_22 : decode cX12_lane 22 = .ok (.iload_n 1, 1) := by decide +kernel
theorem dX12_lane_23 : decode cX12_lane 23 = .ok (.iload_n 2, 1) := by decide +kernel
theorem dX12_lane_24 : decode cX12_lane 24 = .ok (.invokevirtual 418, 3) := by decide +kernel
theorem dX12_lane_27 : decode cX12_lane 27 = .ok (.goto 4, 3) := by decide +kernel
theorem dX12_lane_30 : decode cX12_lane 30 = .ok (.iconst (-1), 1) := by decide +kernel
theorem dX12_lane_31 : decode cX12_lane 31 = .ok (.ireturn, 1) := by decide +kernel
set_option maxRecDepth 20000 in
theorem ggX12_deed_X12_isDeed : GoodIn wsX12_deed wsX12_isDeed := goodIn_r _ [9, 10, 11, 12, 13, 14, 15, 16, 17, 18, 19, 20, 21, 22, 23, 24, 25, 26, 27, 28, 29, 30, 31, 32, 33, 34, 35, 36, 37, 38, 39, 40, 41, 42, 43, 44, 45, 46, 47, 48, 49, 50, 51, 52, 53, 54, 55, 56, 57, 58, 59, 60, 61, 62, 63, 64, 65, 66, 67, 68, 69, 70, 71, 72, 73, 74, 75, 76] rfl (by decide +kernel)
set_option maxRecDepth 20000 in
theorem gX12_deed_X12_isDeed : GoodIn wsX12_deed (wsV RX12 421 RX12 yX12_isDeed wsX12_isDeed) := goodIn_app (goodIn_r _ [5, 6, 7, 8] rfl (by decide +kernel)) ggX12_deed_X12_isDeed
theorem dX12_deed_0 : decode cX12_deed 0 = .ok (.aload_n 0, 1) := by decide +kernel
theorem dX12_deed_1 : decode cX12_deed 1 = .ok (.iconst 0, 1) := by decide +kernel
theorem dX12_deed_2 : decode cX12_deed 2 = .ok (.putfield 145, 3) := by decide +kernel
theorem dX12_deed_5 : decode cX12_deed 5 = .ok (.aload_n 0, 1) := by decide +kernel
theorem dX12_deed_6 : decode cX12_deed 6 = .ok (.iload_n 1, 1) := by decide +kernel
theorem dX12_deed_7 : decode cX12_deed 7 = .ok (.invokevirtual 421, 3) := by decide +kernel
theorem dX12_deed_10 : decode cX12_deed 10 = .ok (.ifCond .ne 5, 3) := by decide +kernel
theorem dX12_deed_13 : decode cX12_deed 13 = .ok (.iconst (-1), 1) := by decide +kernel
theorem dX12_deed_14 : decode cX12_deed 14 = .ok (.ireturn, 1) := by decide +kernel
theorem dX12_deed_15 : decode cX12_deed 15 = .ok (.iload_n 2, 1) := by decide +kernel
theorem dX12_deed_16 : decode cX12_deed 16 = .ok (.ifCond .ne 12, 3) := by decide +kernel
theorem dX12_deed_19 : decode cX12_deed 19 = .ok (.aload_n 0, 1) := by decide +kernel
theorem dX12_deed_20 : decode cX12_deed 20 = .ok (.getfield 28, 3) := by decide +kernel
theorem dX12_deed_23 : decode cX12_deed 23 = .ok (.iload_n 1, 1) := by decide +kernel
theorem dX12_deed_24 : decode cX12_deed 24 = .ok (.iaload, 1) := by decide +kernel
theorem dX12_deed_25 : decode cX12_deed 25 = .ok (.goto 32, 3) := by decide +kernel
theorem dX12_deed_28 : decode cX12_deed 28 = .ok (.iload_n 2, 1) := by decide +kernel
theorem dX12_deed_29 : decode cX12_deed 29 = .ok (.iconst 1, 1) := by decide +kernel
theorem dX12_deed_30 : decode cX12_deed 30 = .ok (.if_icmp .ne 12, 3) := by decide +kernel
theorem dX12_deed_33 : decode cX12_deed 33 = .ok (.aload_n 0, 1) := by decide +kernel
theorem dX12_deed_34 : decode cX12_deed 34 = .ok (.getfield 31, 3) := by decide +kernel
theorem dX12_deed_37 : decode cX12_deed 37 = .ok (.iload_n 1, 1) := by decide +kernel
theorem dX12_deed_38 : decode cX12_deed 38 = .ok (.iaload, 1) := by decide +kernel
theorem dX12_deed_39 : decode cX12_deed 39 = .ok (.goto 18, 3) := by decide +kernel
theorem dX12_deed_42 : decode cX12_deed 42 = .ok (.iload_n 2, 1) := by decide +kernel
theorem dX12_deed_43 : decode cX12_deed 43 = .ok (.iconst 2, 1) := by decide +kernel
theorem dX12_deed_44 : decode cX12_deed 44 = .ok (.if_icmp .ne 12, 3) := by decide +kernel
theorem dX12_deed_47 : decode cX12_deed 47 = .ok (.aload_n 0, 1) := by decide +kernel
theorem dX12_deed_48 : decode cX12_deed 48 = .ok (.getfield 34, 3) := by decide +kernel
theorem dX12_deed_51 : decode cX12_deed 51 = .ok (.iload_n 1, 1) := by decide +kernel
theorem dX12_deed_52 : decode cX12_deed 52 = .ok (.iaload, 1) := by decide +kernel
theorem dX12_deed_53 : decode cX12_deed 53 = .ok (.goto 4, 3) := by decide +kernel
theorem dX12_deed_56 : decode cX12_deed 56 = .ok (.iconst (-1), 1) := by decide +kernel
theorem dX12_deed_57 : decode cX12_deed 57 = .ok (.ireturn, 1) := by decide +kernel
set_option maxRecDepth 20000 in
theorem ggX12_wind_X12_galeOf : GoodIn wsX12_wind wsX12_galeOf := goodIn_r _ [6, 7, 8, 9, 10, 11, 12, 13, 14, 15, 16, 17, 18, 19, 20, 21, 22, 23, 24, 25, 26, 27, 28, 29, 30, 31, 32, 33, 34, 35, 36, 37, 38, 39, 40, 41, 42, 43, 44, 45, 46, 47, 48, 49, 50, 51, 52, 53, 54, 55, 56, 57, 58, 59, 60, 61, 62, 63, 64, 65, 66, 67, 68, 69, 70, 71, 72, 73, 74, 75, 76] rfl (by decide +kernel)
set_option maxRecDepth 20000 in
theorem gX12_wind_X12_galeOf : GoodIn wsX12_wind (wsV RX12 343 RX12 yX12_galeOf wsX12_galeOf) := goodIn_app (goodIn_r _ [2, 3, 4, 5] rfl (by decide +kernel)) ggX12_wind_X12_galeOf
theorem dX12_wind_0 : decode cX12_wind 0 = .ok (.aload_n 0, 1) := by decide +kernel
theorem dX12_wind_1 : decode cX12_wind 1 = .ok (.iconst 0, 1) := by decide +kernel
theorem dX12_wind_2 : decode cX12_wind 2 = .ok (.putfield 145, 3) := by decide +kernel
theorem dX12_wind_5 : decode cX12_wind 5 = .ok (.iload_n 1, 1) := by decide +kernel
theorem dX12_wind_6 : decode cX12_wind 6 = .ok (.ifCond .lt 18, 3) := by decide +kernel
theorem dX12_wind_9 : decode cX12_wind 9 = .ok (.iload_n 1, 1) := by decide +kernel
theorem dX12_wind_10 : decode cX12_wind 10 = .ok (.sipush 9999, 3) := by decide +kernel
theorem dX12_wind_13 : decode cX12_wind 13 = .ok (.if_icmp .gt 11, 3) := by decide +kernel
theorem dX12_wind_16 : decode cX12_wind 16 = .ok (.aload_n 0, 1) := by decide +kernel
theorem dX12_wind_17 : decode cX12_wind 17 = .ok (.iload_n 1, 1) := by decide +kernel
theorem dX12_wind_18 : decode cX12_wind 18 = .ok (.invokevirtual 343, 3) := by decide +kernel
theorem dX12_wind_21 : decode cX12_wind 21 = .ok (.goto 4, 3) := by decide +kernel
theorem dX12_wind_24 : decode cX12_wind 24 = .ok (.iconst (-1), 1) := by decide +kernel
theorem dX12_wind_25 : decode cX12_wind 25 = .ok (.ireturn, 1) := by decide +kernel
theorem dX12_isAhead_0 : decode cX12_isAhead 0 = .ok (.iload_n 1, 1) := by decide +kernel
theorem dX12_isAhead_1 : decode cX12_isAhead 1 = .ok (.aload_n 0, 1) := by decide +kernel
theorem dX12_isAhead_2 : decode cX12_isAhead 2 = .ok (.getfield 63, 3) := by decide +kernel
theorem dX12_isAhead_5 : decode cX12_isAhead 5 = .ok (.iconst 0, 1) := by decide +kernel
theorem dX12_isAhead_6 : decode cX12_isAhead 6 = .ok (.iaload, 1) := by decide +kernel
theorem dX12_isAhead_7 : decode cX12_isAhead 7 = .ok (.if_icmp .lt 20, 3) := by decide +kernel
theorem dX12_isAhead_10 : decode cX12_isAhead 10 = .ok (.iload_n 1, 1) := by decide +kernel
theorem dX12_isAhead_11 : decode cX12_isAhead 11 = .ok (.aload_n 0, 1) := by decide +kernel
theorem dX12_isAhead_12 : decode cX12_isAhead 12 = .ok (.getfield 63, 3) := by decide +kernel
theorem dX12_isAhead_15 : decode cX12_isAhead 15 = .ok (.iconst 0, 1) := by decide +kernel
theorem dX12_isAhead_16 : decode cX12_isAhead 16 = .ok (.iaload, 1) := by decide +kernel
theorem dX12_isAhead_17 : decode cX12_isAhead 17 = .ok (.bipush 99, 2) := by decide +kernel
theorem dX12_isAhead_19 : decode cX12_isAhead 19 = .ok (.iadd, 1) := by decide +kernel
theorem dX12_isAhead_20 : decode cX12_isAhead 20 = .ok (.if_icmp .gt 7, 3) := by decide +kernel
theorem dX12_isAhead_23 : decode cX12_isAhead 23 = .ok (.iconst 1, 1) := by decide +kernel
theorem dX12_isAhead_24 : decode cX12_isAhead 24 = .ok (.goto 4, 3) := by decide +kernel
theorem dX12_isAhead_27 : decode cX12_isAhead 27 = .ok (.iconst 0, 1) := by decide +kernel
theorem dX12_isAhead_28 : decode cX12_isAhead 28 = .ok (.ireturn, 1) := by decide +kernel
set_option maxRecDepth 20000 in
theorem ggX12_mood_X12_isBay : GoodIn wsX12_mood wsX12_isBay := goodIn_r _ [9, 10, 93, 94, 95, 96, 97, 98, 99, 100, 101, 102, 103, 104, 105, 106, 107, 108, 109, 110, 111, 112, 113, 114, 115, 116, 117, 118, 119, 120, 121, 122, 123, 124, 125, 126, 127, 128, 129, 130, 131, 132, 133, 134, 135, 136, 137, 138, 139, 140, 141, 142, 143, 144, 145, 146, 147, 148, 149, 150, 151, 152, 153, 154, 155, 156, 157, 158] rfl (by decide +kernel)
set_option maxRecDepth 20000 in
theorem gX12_mood_X12_isBay : GoodIn wsX12_mood (wsV RX12 415 RX12 yX12_isBay wsX12_isBay) := goodIn_app (goodIn_r _ [5, 6, 7, 8] rfl (by decide +kernel)) ggX12_mood_X12_isBay
set_option maxRecDepth 20000 in
theorem ggX12_mood_X12_isAhead : GoodIn wsX12_mood wsX12_isAhead := goodIn_r _ [14, 15, 93, 94, 95, 96, 97, 98, 99, 100, 101, 102, 103, 104, 105, 106, 107, 108, 109, 110, 111, 112, 113, 114, 115, 116, 117, 118, 119, 120, 121, 122, 123, 124, 125, 126, 127, 128, 129, 130, 131, 132, 133, 134, 135, 136, 137, 138, 139, 140, 141, 142, 143, 144, 145, 146, 147, 148, 149, 150, 151, 152, 153, 154, 155, 156, 157, 158] rfl (by decide +kernel)
set_option maxRecDepth 20000 in
theorem gX12_mood_X12_isAhead : GoodIn wsX12_mood (wsV RX12 424 RX12 yX12_isAhead wsX12_isAhead) := goodIn_app (goodIn_r _ [11, 12, 13, 8] rfl (by decide +kernel)) ggX12_mood_X12_isAhead
set_option maxRecDepth 20000 in
theorem ggX12_mood_X12_foresees : GoodIn wsX12_mood wsX12_foresees := goodIn_r _ [19, 20, 2, 21, 3, 22, 4, 15, 10, 23, 24, 25, 26, 27, 8, 28, 29, 30, 31, 32, 33, 34, 35, 36, 37, 38, 39, 40, 41, 42, 43, 93, 94, 95, 96, 97, 98, 99, 100, 101, 102, 103, 104, 105, 106, 107, 108, 109, 110, 111, 112, 113, 114, 115, 116, 117, 118, 119, 120, 121, 122, 123, 124, 125, 126, 127, 128, 129, 130, 131, 132, 133, 134, 135, 136, 137, 138, 139, 140, 141, 142, 143, 144, 145, 146, 147, 148, 149, 150, 151, 152, 153, 154, 155, 156, 157, 158] rfl (by decide +kernel)
set_option maxRecDepth 20000 in
theorem gX12_mood_X12_foresees : GoodIn wsX12_mood (wsV RX12 387 RX12 yX12_foresees wsX12_foresees) := goodIn_app (goodIn_r _ [16, 17, 18, 8] rfl (by decide +kernel)) ggX12_mood_X12_foresees
set_option maxRecDepth 20000 in
theorem ggX12_mood_X12_moodBy : GoodIn wsX12_mood wsX12_moodBy := goodIn_r _ [47, 48, 49, 50, 51, 52, 31, 53, 54, 55, 56, 57, 58, 59, 60, 8, 61, 29, 30, 32, 62, 63, 64, 65, 40, 66, 10, 67, 68, 69, 70, 71, 72, 73, 74, 75, 76, 77, 78, 79, 80, 81, 82, 83, 84, 85, 86, 87, 88, 89, 90, 91, 92, 93, 94, 95, 96, 97, 98, 99, 100, 101, 102, 103, 104, 105, 106, 107, 108, 109, 110, 111, 112, 113, 114, 115, 116, 117, 118, 119, 120, 121, 122, 123, 124, 125, 126, 127, 128, 129, 130, 131, 132, 133, 134, 135, 136, 137, 138, 139, 140, 141, 142, 143, 144, 145, 146, 147, 148, 149, 150, 151, 152, 153, 154, 155, 156, 157, 158] rfl (by decide +kernel)
set_option maxRecDepth 20000 in
theorem gX12_mood_X12_moodBy : GoodIn wsX12_mood (wsV RX12 366 RX12 yX12_moodBy wsX12_moodBy) := goodIn_app (goodIn_r _ [44, 45, 46, 8] rfl (by decide +kernel)) ggX12_mood_X12_moodBy
theorem dX12_mood_0 : decode cX12_mood 0 = .ok (.aload_n 0, 1) := by decide +kernel
theorem dX12_mood_1 : decode cX12_mood 1 = .ok (.iconst 0, 1) := by decide +kernel
theorem dX12_mood_2 : decode cX12_mood 2 = .ok (.putfield 145, 3) := by decide +kernel
theorem dX12_mood_5 : decode cX12_mood 5 = .ok (.aload_n 0, 1) := by decide +kernel
theorem dX12_mood_6 : decode cX12_mood 6 = .ok (.iload_n 1, 1) := by decide +kernel
theorem dX12_mood_7 : decode cX12_mood 7 = .ok (.invokevirtual 415, 3) := by decide +kernel
theorem dX12_mood_10 : decode cX12_mood 10 = .ok (.ifCond .eq 11, 3) := by decide +kernel
theorem dX12_mood_13 : decode cX12_mood 13 = .ok (.aload_n 0, 1) := by decide +kernel
theorem dX12_mood_14 : decode cX12_mood 14 = .ok (.iload_n 2, 1) := by decide +kernel
theorem dX12_mood_15 : decode cX12_mood 15 = .ok (.invokevirtual 424, 3) := by decide +kernel
theorem dX12_mood_18 : decode cX12_mood 18 = .ok (.ifCond .ne 5, 3) := by decide +kernel
theorem dX12_mood_21 : decode cX12_mood 21 = .ok (.iconst (-1), 1) := by decide +kernel
theorem dX12_mood_22 : decode cX12_mood 22 = .ok (.ireturn, 1) := by decide +kernel
theorem dX12_mood_23 : decode cX12_mood 23 = .ok (.aload_n 0, 1) := by decide +kernel
theorem dX12_mood_24 : decode cX12_mood 24 = .ok (.iconst 0, 1) := by decide +kernel
theorem dX12_mood_25 : decode cX12_mood 25 = .ok (.iload_n 1, 1) := by decide +kernel
theorem dX12_mood_26 : decode cX12_mood 26 = .ok (.iload_n 2, 1) := by decide +kernel
theorem dX12_mood_27 : decode cX12_mood 27 = .ok (.iconst (-1), 1) := by decide +kernel
theorem dX12_mood_28 : decode cX12_mood 28 = .ok (.invokevirtual 387, 3) := by decide +kernel
theorem dX12_mood_31 : decode cX12_mood 31 = .ok (.aload_n 0, 1) := by decide +kernel
theorem dX12_mood_32 : decode cX12_mood 32 = .ok (.aload_n 0, 1) := by decide +kernel
theorem dX12_mood_33 : decode cX12_mood 33 = .ok (.getfield 370, 3) := by decide +kernel
theorem dX12_mood_36 : decode cX12_mood 36 = .ok (.aload_n 0, 1) := by decide +kernel
theorem dX12_mood_37 : decode cX12_mood 37 = .ok (.getfield 373, 3) := by decide +kernel
theorem dX12_mood_40 : decode cX12_mood 40 = .ok (.aload_n 0, 1) := by decide +kernel
theorem dX12_mood_41 : decode cX12_mood 41 = .ok (.getfield 376, 3) := by decide +kernel
theorem dX12_mood_44 : decode cX12_mood 44 = .ok (.iload_n 2, 1) := by decide +kernel
theorem dX12_mood_45 : decode cX12_mood 45 = .ok (.iconst 0, 1) := by decide +kernel
theorem dX12_mood_46 : decode cX12_mood 46 = .ok (.invokevirtual 366, 3) := by decide +kernel
theorem dX12_mood_49 : decode cX12_mood 49 = .ok (.ireturn, 1) := by decide +kernel
set_option maxRecDepth 20000 in
theorem ggX12_holds_X12_isBay : GoodIn wsX12_holds wsX12_isBay := goodIn_r _ [6, 7, 101, 102, 103, 104, 105, 106, 107, 108, 109, 110, 111, 112, 113, 114, 115, 116, 117, 118, 119, 120, 121, 122, 123, 124, 125, 126, 127, 128, 129, 130, 131, 132, 133, 134, 135, 136, 137, 138, 139, 140, 141, 142, 143, 144, 145, 146, 147, 148, 149, 150, 151, 152, 153, 154, 155, 156, 157, 158, 159, 160, 161, 162, 163, 164, 165, 166] rfl (by decide +kernel)
set_option maxRecDepth 20000 in
theorem gX12_holds_X12_isBay : GoodIn wsX12_holds (wsV RX12 415 RX12 yX12_isBay wsX12_isBay) := goodIn_app (goodIn_r _ [2, 3, 4, 5] rfl (by decide +kernel)) ggX12_holds_X12_isBay
set_option maxRecDepth 20000 in
theorem ggX12_holds_X12_isAhead : GoodIn wsX12_holds wsX12_isAhead := goodIn_r _ [11, 12, 101, 102, 103, 104, 105, 106, 107, 108, 109, 110, 111, 112, 113, 114, 115, 116, 117, 118, 119, 120, 121, 122, 123, 124, 125, 126, 127, 128, 129, 130, 131, 132, 133, 134, 135, 136, 137, 138, 139, 140, 141, 142, 143, 144, 145, 146, 147, 148, 149, 150, 151, 152, 153, 154, 155, 156, 157, 158, 159, 160, 161, 162, 163, 164, 165, 166] rfl (by decide +kernel)
set_option maxRecDepth 20000 in
theorem gX12_holds_X12_isAhead : GoodIn wsX12_holds (wsV RX12 424 RX12 yX12_isAhead wsX12_isAhead) := goodIn_app (goodIn_r _ [8, 9, 10, 5] rfl (by decide +kernel)) ggX12_holds_X12_isAhead
set_option maxRecDepth 20000 in
theorem ggX12_holds_X12_willHold : GoodIn wsX12_holds wsX12_willHold := goodIn_r _ [16, 17, 18, 19, 20, 21, 22, 5, 23, 24, 25, 26, 12, 7, 27, 28, 29, 30, 31, 32, 33, 34, 35, 36, 37, 38, 39, 40, 41, 42, 43, 44, 45, 46, 47, 48, 49, 50, 51, 52, 53, 54, 55, 56, 57, 58, 59, 60, 61, 62, 63, 64, 65, 66, 67, 68, 69, 70, 71, 72, 73, 74, 75, 76, 77, 78, 79, 80, 81, 82, 83, 84, 85, 86, 87, 88, 89, 90, 91, 92, 93, 94, 95, 96, 97, 98, 99, 100, 101, 102, 103, 104, 105, 106, 107, 108, 109, 110, 111, 112, 113, 114, 115, 116, 117, 118, 119, 120, 121, 122, 123, 124, 125, 126, 127, 128, 129, 130, 131, 132, 133, 134, 135, 136, 137, 138, 139, 140, 141, 142, 143, 144, 145, 146, 147, 148, 149, 150, 151, 152, 153, 154, 155, 156, 157, 158, 159, 160, 161, 162, 163, 164, 165, 166] rfl (by decide +kernel)
set_option maxRecDepth 20000 in
theorem gX12_holds_X12_willHold : GoodIn wsX12_holds (wsV RX12 427 RX12 yX12_willHold wsX12_willHold) := goodIn_app (goodIn_r _ [13, 14, 15, 5] rfl (by decide +kernel)) ggX12_holds_X12_willHold
theorem dX12_holds_0 : decode cX12_holds 0 = .ok (.aload_n 0, 1) := by decide +kernel
theorem dX12_holds_1 : decode cX12_holds 1 = .ok (.iconst 0, 1) := by decide +kernel
theorem dX12_holds_2 : decode cX12_holds 2 = .ok (.putfield 145, 3) := by decide +kernel
theorem dX12_holds_5 : decode cX12_holds 5 = .ok (.aload_n 0, 1) := by decide +kernel
theorem dX12_holds_6 : decode cX12_holds 6 = .ok (.iload_n 1, 1) := by decide +kernel
theorem dX12_holds_7 : decode cX12_holds 7 = .ok (.invokevirtual 415, 3) := by decide +kernel
theorem dX12_holds_10 : decode cX12_holds 10 = .ok (.ifCond .eq 11, 3) := by decide +kernel
theorem dX12_holds_13 : decode cX12_holds 13 = .ok (.aload_n 0, 1) := by decide +kernel
theorem dX12_holds_14 : decode cX12_holds 14 = .ok (.iload_n 2, 1) := by decide +kernel
theorem dX12_holds_15 : decode cX12_holds 15 = .ok (.invokevirtual 424, 3) := by decide +kernel
theorem dX12_holds_18 : decode cX12_holds 18 = .ok (.ifCond .ne 5, 3) := by decide +kernel
theorem dX12_holds_21 : decode cX12_holds 21 = .ok (.iconst (-1), 1) := by decide +kernel
theorem dX12_holds_22 : decode cX12_holds 22 = .ok (.ireturn, 1) := by decide +kernel
theorem dX12_holds_23 : decode cX12_holds 23 = .ok (.aload_n 0, 1) := by decide +kernel
theorem dX12_holds_24 : decode cX12_holds 24 = .ok (.iconst 0, 1) := by decide +kernel
theorem dX12_holds_25 : decode cX12_holds 25 = .ok (.iload_n 1, 1) := by decide +kernel
theorem dX12_holds_26 : decode cX12_holds 26 = .ok (.iload_n 2, 1) := by decide +kernel
theorem dX12_holds_27 : decode cX12_holds 27 = .ok (.iconst (-1), 1) := by decide +kernel
theorem dX12_holds_28 : decode cX12_holds 28 = .ok (.invokevirtual 427, 3) := by decide +kernel
theorem dX12_holds_31 : decode cX12_holds 31 = .ok (.ifCond .eq 7, 3) := by decide +kernel
theorem dX12_holds_34 : decode cX12_holds 34 = .ok (.iconst 1, 1) := by decide +kernel
theorem dX12_holds_35 : decode cX12_holds 35 = .ok (.goto 4, 3) := by decide +kernel
theorem dX12_holds_38 : decode cX12_holds 38 = .ok (.iconst 0, 1) := by decide +kernel
theorem dX12_holds_39 : decode cX12_holds 39 = .ok (.ireturn, 1) := by decide +kernel
set_option maxRecDepth 20000 in
theorem ggX12_law_X12_hasLaw : GoodIn wsX12_law wsX12_hasLaw := goodIn_r _ [14, 15, 16, 69, 70, 71, 72, 73, 74, 75, 76, 77, 78, 79, 80, 81, 82, 83, 84, 85, 86, 87, 88, 89, 90, 91, 92, 93, 94, 95, 96, 97, 98, 99, 100, 101, 102, 103, 104, 105, 106, 107, 108, 109, 110, 111, 112, 113, 114, 115, 116, 117, 118, 119, 120, 121, 122, 123, 124, 125, 126, 127, 128, 129, 130, 131, 132, 133, 134] rfl (by decide +kernel)
set_option maxRecDepth 20000 in
theorem gX12_law_X12_hasLaw : GoodIn wsX12_law (wsV RX12 360 RX12 yX12_hasLaw wsX12_hasLaw) := goodIn_app (goodIn_r _ [10, 11, 12, 13] rfl (by decide +kernel)) ggX12_law_X12_hasLaw
set_option maxRecDepth 20000 in
theorem ggX12_law_X12_isBay : GoodIn wsX12_law wsX12_isBay := goodIn_r _ [20, 21, 69, 70, 71, 72, 73, 74, 75, 76, 77, 78, 79, 80, 81, 82, 83, 84, 85, 86, 87, 88, 89, 90, 91, 92, 93, 94, 95, 96, 97, 98, 99, 100, 101, 102, 103, 104, 105, 106, 107, 108, 109, 110, 111, 112, 113, 114, 115, 116, 117, 118, 119, 120, 121, 122, 123, 124, 125, 126, 127, 128, 129, 130, 131, 132, 133, 134] rfl (by decide +kernel)
set_option maxRecDepth 20000 in
theorem gX12_law_X12_isBay : GoodIn wsX12_law (wsV RX12 415 RX12 yX12_isBay wsX12_isBay) := goodIn_app (goodIn_r _ [17, 18, 19, 13] rfl (by decide +kernel)) ggX12_law_X12_isBay
set_option maxRecDepth 20000 in
theorem ggX12_law_X12_moodBy : GoodIn wsX12_law wsX12_moodBy := goodIn_r _ [25, 26, 27, 28, 29, 30, 31, 32, 33, 34, 35, 9, 36, 37, 38, 13, 39, 40, 41, 42, 43, 44, 45, 46, 47, 48, 21, 49, 10, 11, 12, 14, 15, 16, 50, 51, 52, 53, 54, 55, 56, 57, 58, 59, 60, 61, 62, 63, 64, 65, 66, 67, 68, 69, 70, 71, 72, 73, 74, 75, 76, 77, 78, 79, 80, 81, 82, 83, 84, 85, 86, 87, 88, 89, 90, 91, 92, 93, 94, 95, 96, 97, 98, 99, 100, 101, 102, 103, 104, 105, 106, 107, 108, 109, 110, 111, 112, 113, 114, 115, 116, 117, 118, 119, 120, 121, 122, 123, 124, 125, 126, 127, 128, 129, 130, 131, 132, 133, 134] rfl (by decide +kernel)
set_option maxRecDepth 20000 in
theorem gX12_law_X12_moodBy : GoodIn wsX12_law (wsV RX12 366 RX12 yX12_moodBy wsX12_moodBy) := goodIn_app (goodIn_r _ [22, 23, 24, 13] rfl (by decide +kernel)) ggX12_law_X12_moodBy
set_option maxRecDepth 20000 in
theorem ggX12_law_X12_calls : GoodIn wsX12_law wsX12_calls := goodIn_r _ [39, 40, 41, 31, 42, 28, 43, 44, 45, 13, 46, 47, 48, 21, 49, 69, 70, 71, 72, 73, 74, 75, 76, 77, 78, 79, 80, 81, 82, 83, 84, 85, 86, 87, 88, 89, 90, 91, 92, 93, 94, 95, 96, 97, 98, 99, 100, 101, 102, 103, 104, 105, 106, 107, 108, 109, 110, 111, 112, 113, 114, 115, 116, 117, 118, 119, 120, 121, 122, 123, 124, 125, 126, 127, 128, 129, 130, 131, 132, 133, 134] rfl (by decide +kernel)
set_option maxRecDepth 20000 in
theorem gX12_law_X12_calls : GoodIn wsX12_law (wsV RX12 346 RX12 yX12_calls wsX12_calls) := goodIn_app (goodIn_r _ [36, 37, 38, 13] rfl (by decide +kernel)) ggX12_law_X12_calls
set_option maxRecDepth 20000 in
theorem ggX12_law_X12_goes : GoodIn wsX12_law wsX12_goes := goodIn_r _ [53, 54, 16, 15, 55, 56, 9, 28, 57, 58, 59, 13, 60, 61, 62, 31, 63, 64, 65, 66, 67, 68, 69, 70, 71, 72, 73, 74, 75, 76, 77, 78, 79, 80, 81, 82, 83, 84, 85, 86, 87, 88, 89, 90, 91, 92, 93, 94, 95, 96, 97, 98, 99, 100, 101, 102, 103, 104, 105, 106, 107, 108, 109, 110, 111, 112, 113, 114, 115, 116, 117, 118, 119, 120, 121, 122, 123, 124, 125, 126, 127, 128, 129, 130, 131, 132, 133, 134] rfl (by decide +kernel)
set_option maxRecDepth 20000 in
theorem gX12_law_X12_goes : GoodIn wsX12_law (wsV RX12 363 RX12 yX12_goes wsX12_goes) := goodIn_app (goodIn_r _ [50, 51, 52, 13] rfl (by decide +kernel)) ggX12_law_X12_goes
theorem dX12_law_0 : decode cX12_law 0 = .ok (.aload_n 0, 1) := by decide +kernel
theorem dX12_law_1 : decode cX12_law 1 = .ok (.iconst 0, 1) := by decide +kernel
theorem dX12_law_2 : decode cX12_law 2 = .ok (.putfield 145, 3) := by decide +kernel
theorem dX12_law_5 : decode cX12_law 5 = .ok (.iload_n 1, 1) := by decide +kernel
theorem dX12_law_6 : decode cX12_law 6 = .ok (.ifCond .lt 24, 3) := by decide +kernel
theorem dX12_law_9 : decode cX12_law 9 = .ok (.iload_n 1, 1) := by decide +kernel
theorem dX12_law_10 : decode cX12_law 10 = .ok (.iconst 2, 1) := by decide +kernel
theorem dX12_law_11 : decode cX12_law 11 = .ok (.if_icmp .gt 19, 3) := by decide +kernel
theorem dX12_law_14 : decode cX12_law 14 = .ok (.aload_n 0, 1) := by decide +kernel
theorem dX12_law_15 : decode cX12_law 15 = .ok (.iload_n 1, 1) := by decide +kernel
theorem dX12_law_16 : decode cX12_law 16 = .ok (.invokevirtual 360, 3) := by decide +kernel
theorem dX12_law_19 : decode cX12_law 19 = .ok (.ifCond .eq 11, 3) := by decide +kernel
theorem dX12_law_22 : decode cX12_law 22 = .ok (.aload_n 0, 1) := by decide +kernel
theorem dX12_law_23 : decode cX12_law 23 = .ok (.iload_n 2, 1) := by decide +kernel
theorem dX12_law_24 : decode cX12_law 24 = .ok (.invokevirtual 415, 3) := by decide +kernel
theorem dX12_law_27 : decode cX12_law 27 = .ok (.ifCond .ne 7, 3) := by decide +kernel
theorem dX12_law_30 : decode cX12_law 30 = .ok (.ldc2_w 433, 3) := by decide +kernel
theorem dX12_law_33 : decode cX12_law 33 = .ok (.lreturn, 1) := by decide +kernel
theorem dX12_law_34 : decode cX12_law 34 = .ok (.aload_n 0, 1) := by decide +kernel
theorem dX12_law_35 : decode cX12_law 35 = .ok (.getfield 69, 3) := by decide +kernel
theorem dX12_law_38 : decode cX12_law 38 = .ok (.iconst 0, 1) := by decide +kernel
theorem dX12_law_39 : decode cX12_law 39 = .ok (.iaload, 1) := by decide +kernel
theorem dX12_law_40 : decode cX12_law 40 = .ok (.iconst (-1), 1) := by decide +kernel
theorem dX12_law_41 : decode cX12_law 41 = .ok (.if_icmp .ne 17, 3) := by decide +kernel
theorem dX12_law_44 : decode cX12_law 44 = .ok (.aload_n 0, 1) := by decide +kernel
theorem dX12_law_45 : decode cX12_law 45 = .ok (.getfield 66, 3) := by decide +kernel
theorem dX12_law_48 : decode cX12_law 48 = .ok (.iconst 0, 1) := by decide +kernel
theorem dX12_law_49 : decode cX12_law 49 = .ok (.iaload, 1) := by decide +kernel
theorem dX12_law_50 : decode cX12_law 50 = .ok (.iload_n 2, 1) := by decide +kernel
theorem dX12_law_51 : decode cX12_law 51 = .ok (.if_icmp .ne 7, 3) := by decide +kernel
theorem dX12_law_54 : decode cX12_law 54 = .ok (.iconst 1, 1) := by decide +kernel
theorem dX12_law_55 : decode cX12_law 55 = .ok (.goto 4, 3) := by decide +kernel
theorem dX12_law_58 : decode cX12_law 58 = .ok (.iconst 0, 1) := by decide +kernel
theorem dX12_law_59 : decode cX12_law 59 = .ok (.istore_n 3, 1) := by decide +kernel
theorem dX12_law_60 : decode cX12_law 60 = .ok (.iload_n 1, 1) := by decide +kernel
theorem dX12_law_61 : decode cX12_law 61 = .ok (.ifCond .ne 7, 3) := by decide +kernel
theorem dX12_law_64 : decode cX12_law 64 = .ok (.iconst 0, 1) := by decide +kernel
theorem dX12_law_65 : decode cX12_law 65 = .ok (.goto 32, 3) := by decide +kernel
theorem dX12_law_68 : decode cX12_law 68 = .ok (.aload_n 0, 1) := by decide +kernel
theorem dX12_law_69 : decode cX12_law 69 = .ok (.aload_n 0, 1) := by decide +kernel
theorem dX12_law_70 : decode cX12_law 70 = .ok (.getfield 90, 3) := by decide +kernel
theorem dX12_law_73 : decode cX12_law 73 = .ok (.iload_n 2, 1) := by decide +kernel
theorem dX12_law_74 : decode cX12_law 74 = .ok (.iaload, 1) := by decide +kernel
theorem dX12_law_75 : decode cX12_law 75 = .ok (.aload_n 0, 1) := by decide +kernel
theorem dX12_law_76 : decode cX12_law 76 = .ok (.getfield 93, 3) := by decide +kernel
theorem dX12_law_79 : decode cX12_law 79 = .ok (.iload_n 2, 1) := by decide +kernel
theorem dX12_law_80 : decode cX12_law 80 = .ok (.iaload, 1) := by decide +kernel
theorem dX12_law_81 : decode cX12_law 81 = .ok (.aload_n 0, 1) := by decide +kernel
theorem dX12_law_82 : decode cX12_law 82 = .ok (.getfield 96, 3) := by decide +kernel
theorem dX12_law_85 : decode cX12_law 85 = .ok (.iload_n 2, 1) := by decide +kernel
theorem dX12_law_86 : decode cX12_law 86 = .ok (.iaload, 1) := by decide +kernel
theorem dX12_law_87 : decode cX12_law 87 = .ok (.aload_n 0, 1) := by decide +kernel
theorem dX12_law_88 : decode cX12_law 88 = .ok (.getfield 63, 3) := by decide +kernel
theorem dX12_law_91 : decode cX12_law 91 = .ok (.iconst 0, 1) := by decide +kernel
theorem dX12_law_92 : decode cX12_law 92 = .ok (.iaload, 1) := by decide +kernel
theorem dX12_law_93 : decode cX12_law 93 = .ok (.iload_n 3, 1) := by decide +kernel
theorem dX12_law_94 : decode cX12_law 94 = .ok (.invokevirtual 366, 3) := by decide +kernel
theorem dX12_law_97 : decode cX12_law 97 = .ok (.istore 4, 2) := by decide +kernel
theorem dX12_law_99 : decode cX12_law 99 = .ok (.aload_n 0, 1) := by decide +kernel
theorem dX12_law_100 : decode cX12_law 100 = .ok (.aload_n 0, 1) := by decide +kernel
theorem dX12_law_101 : decode cX12_law 101 = .ok (.getfield 90, 3) := by decide +kernel
theorem dX12_law_104 : decode cX12_law 104 = .ok (.iload_n 2, 1) := by decide +kernel
theorem dX12_law_105 : decode cX12_law 105 = .ok (.iaload, 1) := by decide +kernel
theorem dX12_law_106 : decode cX12_law 106 = .ok (.aload_n 0, 1) := by decide +kernel
theorem dX12_law_107 : decode cX12_law 107 = .ok (.getfield 93, 3) := by decide +kernel
theorem dX12_law_110 : decode cX12_law 110 = .ok (.iload_n 2, 1) := by decide +kernel
theorem dX12_law_111 : decode cX12_law 111 = .ok (.iaload, 1) := by decide +kernel
theorem dX12_law_112 : decode cX12_law 112 = .ok (.aload_n 0, 1) := by decide +kernel
theorem dX12_law_113 : decode cX12_law 113 = .ok (.getfield 96, 3) := by decide +kernel
theorem dX12_law_116 : decode cX12_law 116 = .ok (.iload_n 2, 1) := by decide +kernel
theorem dX12_law_117 : decode cX12_law 117 = .ok (.iaload, 1) := by decide +kernel
theorem dX12_law_118 : decode cX12_law 118 = .ok (.aload_n 0, 1) := by decide +kernel
theorem dX12_law_119 : decode cX12_law 119 = .ok (.getfield 63, 3) := by decide +kernel
theorem dX12_law_122 : decode cX12_law 122 = .ok (.iconst 0, 1) := by decide +kernel
theorem dX12_law_123 : decode cX12_law 123 = .ok (.iaload, 1) := by decide +kernel
theorem dX12_law_124 : decode cX12_law 124 = .ok (.iload 4, 2) := by decide +kernel
theorem dX12_law_126 : decode cX12_law 126 = .ok (.iload_n 3, 1) := by decide +kernel
theorem dX12_law_127 : decode cX12_law 127 = .ok (.invokevirtual 346, 3) := by decide +kernel
theorem dX12_law_130 : decode cX12_law 130 = .ok (.aload_n 0, 1) := by decide +kernel
theorem dX12_law_131 : decode cX12_law 131 = .ok (.iload_n 1, 1) := by decide +kernel
theorem dX12_law_132 : decode cX12_law 132 = .ok (.invokevirtual 363, 3) := by decide +kernel
theorem dX12_law_135 : decode cX12_law 135 = .ok (.ifCond .eq 12, 3) := by decide +kernel
theorem dX12_law_138 : decode cX12_law 138 = .ok (.aload_n 0, 1) := by decide +kernel
theorem dX12_law_139 : decode cX12_law 139 = .ok (.getfield 60, 3) := by decide +kernel
theorem dX12_law_142 : decode cX12_law 142 = .ok (.iconst 0, 1) := by decide +kernel
theorem dX12_law_143 : decode cX12_law 143 = .ok (.laload, 1) := by decide +kernel
theorem dX12_law_144 : decode cX12_law 144 = .ok (.goto 6, 3) := by decide +kernel
theorem dX12_law_147 : decode cX12_law 147 = .ok (.ldc2_w 433, 3) := by decide +kernel
theorem dX12_law_150 : decode cX12_law 150 = .ok (.lreturn, 1) := by decide +kernel
set_option maxRecDepth 20000 in
theorem ggX12_keepNow_X12_takes : GoodIn wsX12_keepNow wsX12_takes := goodIn_r _ [6, 7, 8, 9, 10, 11, 12, 13, 14, 15, 16, 17, 18, 19, 20, 21, 22, 23, 24, 25, 26, 27, 28, 29, 30, 31, 32, 33, 34, 35, 36, 37, 38, 39, 40, 41, 42, 43, 44, 45, 46, 47, 48, 49, 50, 51, 52, 53, 54, 55, 56, 57, 58, 59, 60, 61, 62, 63, 64, 65, 66, 67, 68, 69, 70, 71, 72, 73, 74, 75, 76, 77, 78, 79, 80, 81, 82, 83, 84] rfl (by decide +kernel)
set_option maxRecDepth 20000 in
theorem gX12_keepNow_X12_takes : GoodIn wsX12_keepNow (wsV RX12 435 RX12 yX12_takes wsX12_takes) := goodIn_app (goodIn_r _ [2, 3, 4, 5] rfl (by decide +kernel)) ggX12_keepNow_X12_takes
theorem dX12_keepNow_0 : decode cX12_keepNow 0 = .ok (.aload_n 0, 1) := by decide +kernel
theorem dX12_keepNow_1 : decode cX12_keepNow 1 = .ok (.getfield 308, 3) := by decide +kernel
theorem dX12_keepNow_4 : decode cX12_keepNow 4 = .ok (.bipush 20, 2) := by decide +kernel
theorem dX12_keepNow_6 : decode cX12_keepNow 6 = .ok (.if_icmp .ne 39, 3) := by decide +kernel
theorem dX12_keepNow_9 : decode cX12_keepNow 9 = .ok (.iconst 1, 1) := by decide +kernel
theorem dX12_keepNow_10 : decode cX12_keepNow 10 = .ok (.istore_n 1, 1) := by decide +kernel
theorem dX12_keepNow_11 : decode cX12_keepNow 11 = .ok (.iload_n 1, 1) := by decide +kernel
theorem dX12_keepNow_12 : decode cX12_keepNow 12 = .ok (.bipush 20, 2) := by decide +kernel
theorem dX12_keepNow_14 : decode cX12_keepNow 14 = .ok (.if_icmp .ge 21, 3) := by decide +kernel
theorem dX12_keepNow_17 : decode cX12_keepNow 17 = .ok (.aload_n 0, 1) := by decide +kernel
theorem dX12_keepNow_18 : decode cX12_keepNow 18 = .ok (.iconst 4, 1) := by decide +kernel
theorem dX12_keepNow_19 : decode cX12_keepNow 19 = .ok (.iload_n 1, 1) := by decide +kernel
theorem dX12_keepNow_20 : decode cX12_keepNow 20 = .ok (.iadd, 1) := by decide +kernel
theorem dX12_keepNow_21 : decode cX12_keepNow 21 = .ok (.iconst 1, 1) := by decide +kernel
theorem dX12_keepNow_22 : decode cX12_keepNow 22 = .ok (.isub, 1) := by decide +kernel
theorem dX12_keepNow_23 : decode cX12_keepNow 23 = .ok (.iconst 4, 1) := by decide +kernel
theorem dX12_keepNow_24 : decode cX12_keepNow 24 = .ok (.iload_n 1, 1) := by decide +kernel
theorem dX12_keepNow_25 : decode cX12_keepNow 25 = .ok (.iadd, 1) := by decide +kernel
theorem dX12_keepNow_26 : decode cX12_keepNow 26 = .ok (.invokevirtual 435, 3) := by decide +kernel
theorem dX12_keepNow_29 : decode cX12_keepNow 29 = .ok (.iinc 1 1, 3) := by decide +kernel
theorem dX12_keepNow_32 : decode cX12_keepNow 32 = .ok (.goto (-21), 3) := by decide +kernel
theorem dX12_keepNow_35 : decode cX12_keepNow 35 = .ok (.aload_n 0, 1) := by decide +kernel
theorem dX12_keepNow_36 : decode cX12_keepNow 36 = .ok (.dup, 1) := by decide +kernel
theorem dX12_keepNow_37 : decode cX12_keepNow 37 = .ok (.getfield 308, 3) := by decide +kernel
theorem dX12_keepNow_40 : decode cX12_keepNow 40 = .ok (.iconst 1, 1) := by decide +kernel
theorem dX12_keepNow_41 : decode cX12_keepNow 41 = .ok (.isub, 1) := by decide +kernel
theorem dX12_keepNow_42 : decode cX12_keepNow 42 = .ok (.putfield 308, 3) := by decide +kernel
theorem dX12_keepNow_45 : decode cX12_keepNow 45 = .ok (.aload_n 0, 1) := by decide +kernel
theorem dX12_keepNow_46 : decode cX12_keepNow 46 = .ok (.iconst 4, 1) := by decide +kernel
theorem dX12_keepNow_47 : decode cX12_keepNow 47 = .ok (.aload_n 0, 1) := by decide +kernel
theorem dX12_keepNow_48 : decode cX12_keepNow 48 = .ok (.getfield 308, 3) := by decide +kernel
theorem dX12_keepNow_51 : decode cX12_keepNow 51 = .ok (.iadd, 1) := by decide +kernel
theorem dX12_keepNow_52 : decode cX12_keepNow 52 = .ok (.iconst 0, 1) := by decide +kernel
theorem dX12_keepNow_53 : decode cX12_keepNow 53 = .ok (.invokevirtual 435, 3) := by decide +kernel
theorem dX12_keepNow_56 : decode cX12_keepNow 56 = .ok (.aload_n 0, 1) := by decide +kernel
theorem dX12_keepNow_57 : decode cX12_keepNow 57 = .ok (.dup, 1) := by decide +kernel
theorem dX12_keepNow_58 : decode cX12_keepNow 58 = .ok (.getfield 308, 3) := by decide +kernel
theorem dX12_keepNow_61 : decode cX12_keepNow 61 = .ok (.iconst 1, 1) := by decide +kernel
theorem dX12_keepNow_62 : decode cX12_keepNow 62 = .ok (.iadd, 1) := by decide +kernel
theorem dX12_keepNow_63 : decode cX12_keepNow 63 = .ok (.putfield 308, 3) := by decide +kernel
theorem dX12_keepNow_66 : decode cX12_keepNow 66 = .ok (.return_, 1) := by decide +kernel
set_option maxRecDepth 20000 in
theorem ggX12_sail_X12_isBay : GoodIn wsX12_sail wsX12_isBay := goodIn_r _ [10, 11, 36, 37, 38, 39, 40, 41, 42, 43, 44, 45, 46, 47, 48, 49, 50, 51, 52, 53, 54, 55, 56, 57, 58, 59, 60, 61, 62, 63, 64, 65, 66, 67, 68, 69, 70, 71, 72, 73, 74, 75, 76, 77, 78, 79, 80, 81, 82, 83, 84, 85, 86, 87, 88, 89, 90, 91, 92, 93, 94, 95, 96, 97, 98, 99, 100, 101] rfl (by decide +kernel)
set_option maxRecDepth 20000 in
theorem gX12_sail_X12_isBay : GoodIn wsX12_sail (wsV RX12 415 RX12 yX12_isBay wsX12_isBay) := goodIn_app (goodIn_r _ [6, 7, 8, 9] rfl (by decide +kernel)) ggX12_sail_X12_isBay
set_option maxRecDepth 20000 in
theorem ggX12_sail_X12_laneOf : GoodIn wsX12_sail wsX12_laneOf := goodIn_r _ [15, 11, 16, 17, 18, 36, 37, 38, 39, 40, 41, 42, 43, 44, 45, 46, 47, 48, 49, 50, 51, 52, 53, 54, 55, 56, 57, 58, 59, 60, 61, 62, 63, 64, 65, 66, 67, 68, 69, 70, 71, 72, 73, 74, 75, 76, 77, 78, 79, 80, 81, 82, 83, 84, 85, 86, 87, 88, 89, 90, 91, 92, 93, 94, 95, 96, 97, 98, 99, 100, 101] rfl (by decide +kernel)
set_option maxRecDepth 20000 in
theorem gX12_sail_X12_laneOf : GoodIn wsX12_sail (wsV RX12 418 RX12 yX12_laneOf wsX12_laneOf) := goodIn_app (goodIn_r _ [12, 13, 14, 9] rfl (by decide +kernel)) ggX12_sail_X12_laneOf
set_option maxRecDepth 20000 in
theorem ggX12_sail_X12_keepNow : GoodIn wsX12_sail wsX12_keepNow := goodIn_r _ [22, 23, 24, 25, 26, 9, 27, 5, 3, 2, 4, 28, 29, 30, 31, 32, 33, 34, 35, 36, 37, 38, 39, 40, 41, 42, 43, 44, 45, 46, 47, 48, 49, 50, 51, 52, 53, 54, 55, 56, 57, 58, 59, 60, 61, 62, 63, 64, 65, 66, 67, 68, 69, 70, 71, 72, 73, 74, 75, 76, 77, 78, 79, 80, 81, 82, 83, 84, 85, 86, 87, 88, 89, 90, 91, 92, 93, 94, 95, 96, 97, 98, 99, 100, 101] rfl (by decide +kernel)
set_option maxRecDepth 20000 in
theorem gX12_sail_X12_keepNow : GoodIn wsX12_sail (wsV RX12 438 RX12 yX12_keepNow wsX12_keepNow) := goodIn_app (goodIn_r _ [19, 20, 21, 9] rfl (by decide +kernel)) ggX12_sail_X12_keepNow
theorem dX12_sail_0 : decode cX12_sail 0 = .ok (.aload_n 0, 1) := by decide +kernel
theorem dX12_sail_1 : decode cX12_sail 1 = .ok (.iconst 0, 1) := by decide +kernel
theorem dX12_sail_2 : decode cX12_sail 2 = .ok (.putfield 145, 3) := by decide +kernel
theorem dX12_sail_5 : decode cX12_sail 5 = .ok (.aload_n 0, 1) := by decide +kernel
theorem dX12_sail_6 : decode cX12_sail 6 = .ok (.iload_n 1, 1) := by decide +kernel
theorem dX12_sail_7 : decode cX12_sail 7 = .ok (.invokevirtual 415, 3) := by decide +kernel
theorem dX12_sail_10 : decode cX12_sail 10 = .ok (.ifCond .eq 23, 3) := by decide +kernel
theorem dX12_sail_13 : decode cX12_sail 13 = .ok (.aload_n 0, 1) := by decide +kernel
theorem dX12_sail_14 : decode cX12_sail 14 = .ok (.getfield 69, 3) := by decide +kernel
theorem dX12_sail_17 : decode cX12_sail 17 = .ok (.iconst 0, 1) := by decide +kernel
theorem dX12_sail_18 : decode cX12_sail 18 = .ok (.iaload, 1) := by decide +kernel
theorem dX12_sail_19 : decode cX12_sail 19 = .ok (.iconst (-1), 1) := by decide +kernel
theorem dX12_sail_20 : decode cX12_sail 20 = .ok (.if_icmp .ne 15, 3) := by decide +kernel
theorem dX12_sail_23 : decode cX12_sail 23 = .ok (.aload_n 0, 1) := by decide +kernel
theorem dX12_sail_24 : decode cX12_sail 24 = .ok (.getfield 66, 3) := by decide +kernel
theorem dX12_sail_27 : decode cX12_sail 27 = .ok (.iconst 0, 1) := by decide +kernel
theorem dX12_sail_28 : decode cX12_sail 28 = .ok (.iaload, 1) := by decide +kernel
theorem dX12_sail_29 : decode cX12_sail 29 = .ok (.iload_n 1, 1) := by decide +kernel
theorem dX12_sail_30 : decode cX12_sail 30 = .ok (.if_icmp .ne 5, 3) := by decide +kernel
theorem dX12_sail_33 : decode cX12_sail 33 = .ok (.iconst (-1), 1) := by decide +kernel
theorem dX12_sail_34 : decode cX12_sail 34 = .ok (.ireturn, 1) := by decide +kernel
theorem dX12_sail_35 : decode cX12_sail 35 = .ok (.aload_n 0, 1) := by decide +kernel
theorem dX12_sail_36 : decode cX12_sail 36 = .ok (.getfield 69, 3) := by decide +kernel
theorem dX12_sail_39 : decode cX12_sail 39 = .ok (.iconst 0, 1) := by decide +kernel
theorem dX12_sail_40 : decode cX12_sail 40 = .ok (.iaload, 1) := by decide +kernel
theorem dX12_sail_41 : decode cX12_sail 41 = .ok (.iconst (-1), 1) := by decide +kernel
theorem dX12_sail_42 : decode cX12_sail 42 = .ok (.if_icmp .ne 17, 3) := by decide +kernel
theorem dX12_sail_45 : decode cX12_sail 45 = .ok (.aload_n 0, 1) := by decide +kernel
theorem dX12_sail_46 : decode cX12_sail 46 = .ok (.aload_n 0, 1) := by decide +kernel
theorem dX12_sail_47 : decode cX12_sail 47 = .ok (.getfield 66, 3) := by decide +kernel
theorem dX12_sail_50 : decode cX12_sail 50 = .ok (.iconst 0, 1) := by decide +kernel
theorem dX12_sail_51 : decode cX12_sail 51 = .ok (.iaload, 1) := by decide +kernel
theorem dX12_sail_52 : decode cX12_sail 52 = .ok (.iload_n 1, 1) := by decide +kernel
theorem dX12_sail_53 : decode cX12_sail 53 = .ok (.invokevirtual 418, 3) := by decide +kernel
theorem dX12_sail_56 : decode cX12_sail 56 = .ok (.ifCond .ne 6, 3) := by decide +kernel
theorem dX12_sail_59 : decode cX12_sail 59 = .ok (.bipush (-2), 2) := by decide +kernel
theorem dX12_sail_61 : decode cX12_sail 61 = .ok (.ireturn, 1) := by decide +kernel
theorem dX12_sail_62 : decode cX12_sail 62 = .ok (.aload_n 0, 1) := by decide +kernel
theorem dX12_sail_63 : decode cX12_sail 63 = .ok (.invokevirtual 438, 3) := by decide +kernel
theorem dX12_sail_66 : decode cX12_sail 66 = .ok (.aload_n 0, 1) := by decide +kernel
theorem dX12_sail_67 : decode cX12_sail 67 = .ok (.getfield 69, 3) := by decide +kernel
theorem dX12_sail_70 : decode cX12_sail 70 = .ok (.iconst 0, 1) := by decide +kernel
theorem dX12_sail_71 : decode cX12_sail 71 = .ok (.iload_n 1, 1) := by decide +kernel
theorem dX12_sail_72 : decode cX12_sail 72 = .ok (.iastore, 1) := by decide +kernel
theorem dX12_sail_73 : decode cX12_sail 73 = .ok (.aload_n 0, 1) := by decide +kernel
theorem dX12_sail_74 : decode cX12_sail 74 = .ok (.getfield 72, 3) := by decide +kernel
theorem dX12_sail_77 : decode cX12_sail 77 = .ok (.iconst 0, 1) := by decide +kernel
theorem dX12_sail_78 : decode cX12_sail 78 = .ok (.aload_n 0, 1) := by decide +kernel
theorem dX12_sail_79 : decode cX12_sail 79 = .ok (.getfield 63, 3) := by decide +kernel
theorem dX12_sail_82 : decode cX12_sail 82 = .ok (.iconst 0, 1) := by decide +kernel
theorem dX12_sail_83 : decode cX12_sail 83 = .ok (.iaload, 1) := by decide +kernel
theorem dX12_sail_84 : decode cX12_sail 84 = .ok (.aload_n 0, 1) := by decide +kernel
theorem dX12_sail_85 : decode cX12_sail 85 = .ok (.aload_n 0, 1) := by decide +kernel
theorem dX12_sail_86 : decode cX12_sail 86 = .ok (.getfield 66, 3) := by decide +kernel
theorem dX12_sail_89 : decode cX12_sail 89 = .ok (.iconst 0, 1) := by decide +kernel
theorem dX12_sail_90 : decode cX12_sail 90 = .ok (.iaload, 1) := by decide +kernel
theorem dX12_sail_91 : decode cX12_sail 91 = .ok (.iload_n 1, 1) := by decide +kernel
theorem dX12_sail_92 : decode cX12_sail 92 = .ok (.invokevirtual 418, 3) := by decide +kernel
theorem dX12_sail_95 : decode cX12_sail 95 = .ok (.iadd, 1) := by decide +kernel
theorem dX12_sail_96 : decode cX12_sail 96 = .ok (.iastore, 1) := by decide +kernel
theorem dX12_sail_97 : decode cX12_sail 97 = .ok (.aload_n 0, 1) := by decide +kernel
theorem dX12_sail_98 : decode cX12_sail 98 = .ok (.getfield 72, 3) := by decide +kernel
theorem dX12_sail_101 : decode cX12_sail 101 = .ok (.iconst 0, 1) := by decide +kernel
theorem dX12_sail_102 : decode cX12_sail 102 = .ok (.iaload, 1) := by decide +kernel
theorem dX12_sail_103 : decode cX12_sail 103 = .ok (.ireturn, 1) := by decide +kernel
set_option maxRecDepth 20000 in
theorem ggX12_kind_X12_isBay : GoodIn wsX12_kind wsX12_isBay := goodIn_r _ [7, 8, 37, 38, 39, 40, 41, 42, 43, 44, 45, 46, 47, 48, 49, 50, 51, 52, 53, 54, 55, 56, 57, 58, 59, 60, 61, 62, 63, 64, 65, 66, 67, 68, 69, 70, 71, 72, 73, 74, 75, 76, 77, 78, 79, 80, 81, 82, 83, 84, 85, 86, 87, 88, 89, 90, 91, 92, 93, 94, 95, 96, 97, 98, 99, 100, 101, 102] rfl (by decide +kernel)
set_option maxRecDepth 20000 in
theorem gX12_kind_X12_isBay : GoodIn wsX12_kind (wsV RX12 415 RX12 yX12_isBay wsX12_isBay) := goodIn_app (goodIn_r _ [3, 4, 5, 6] rfl (by decide +kernel)) ggX12_kind_X12_isBay
set_option maxRecDepth 20000 in
theorem ggX12_kind_X12_keepNow : GoodIn wsX12_kind wsX12_keepNow := goodIn_r _ [12, 13, 14, 15, 16, 6, 17, 18, 19, 20, 21, 22, 23, 24, 25, 26, 2, 27, 28, 37, 38, 39, 40, 41, 42, 43, 44, 45, 46, 47, 48, 49, 50, 51, 52, 53, 54, 55, 56, 57, 58, 59, 60, 61, 62, 63, 64, 65, 66, 67, 68, 69, 70, 71, 72, 73, 74, 75, 76, 77, 78, 79, 80, 81, 82, 83, 84, 85, 86, 87, 88, 89, 90, 91, 92, 93, 94, 95, 96, 97, 98, 99, 100, 101, 102] rfl (by decide +kernel)
set_option maxRecDepth 20000 in
theorem gX12_kind_X12_keepNow : GoodIn wsX12_kind (wsV RX12 438 RX12 yX12_keepNow wsX12_keepNow) := goodIn_app (goodIn_r _ [9, 10, 11, 6] rfl (by decide +kernel)) ggX12_kind_X12_keepNow
set_option maxRecDepth 20000 in
theorem ggX12_kind_X12_remembers : GoodIn wsX12_kind wsX12_remembers := goodIn_r _ [32, 2, 33, 34, 35, 36, 27, 28, 18, 37, 38, 39, 40, 41, 42, 43, 44, 45, 46, 47, 48, 49, 50, 51, 52, 53, 54, 55, 56, 57, 58, 59, 60, 61, 62, 63, 64, 65, 66, 67, 68, 69, 70, 71, 72, 73, 74, 75, 76, 77, 78, 79, 80, 81, 82, 83, 84, 85, 86, 87, 88, 89, 90, 91, 92, 93, 94, 95, 96, 97, 98, 99, 100, 101, 102] rfl (by decide +kernel)
set_option maxRecDepth 20000 in
theorem gX12_kind_X12_remembers : GoodIn wsX12_kind (wsV RX12 407 RX12 yX12_remembers wsX12_remembers) := goodIn_app (goodIn_r _ [29, 30, 31, 6] rfl (by decide +kernel)) ggX12_kind_X12_remembers
theorem dX12_kind_0 : decode cX12_kind 0 = .ok (.aload_n 0, 1) := by decide +kernel
theorem dX12_kind_1 : decode cX12_kind 1 = .ok (.iconst 0, 1) := by decide +kernel
theorem dX12_kind_2 : decode cX12_kind 2 = .ok (.putfield 145, 3) := by decide +kernel
theorem dX12_kind_5 : decode cX12_kind 5 = .ok (.aload_n 0, 1) := by decide +kernel
theorem dX12_kind_6 : decode cX12_kind 6 = .ok (.iload_n 1, 1) := by decide +kernel
theorem dX12_kind_7 : decode cX12_kind 7 = .ok (.invokevirtual 415, 3) := by decide +kernel
theorem dX12_kind_10 : decode cX12_kind 10 = .ok (.ifCond .eq 13, 3) := by decide +kernel
theorem dX12_kind_13 : decode cX12_kind 13 = .ok (.iload_n 2, 1) := by decide +kernel
theorem dX12_kind_14 : decode cX12_kind 14 = .ok (.ifCond .lt 9, 3) := by decide +kernel
theorem dX12_kind_17 : decode cX12_kind 17 = .ok (.iload_n 2, 1) := by decide +kernel
theorem dX12_kind_18 : decode cX12_kind 18 = .ok (.bipush 9, 2) := by decide +kernel
theorem dX12_kind_20 : decode cX12_kind 20 = .ok (.if_icmp .le 5, 3) := by decide +kernel
theorem dX12_kind_23 : decode cX12_kind 23 = .ok (.iconst (-1), 1) := by decide +kernel
theorem dX12_kind_24 : decode cX12_kind 24 = .ok (.ireturn, 1) := by decide +kernel
theorem dX12_kind_25 : decode cX12_kind 25 = .ok (.aload_n 0, 1) := by decide +kernel
theorem dX12_kind_26 : decode cX12_kind 26 = .ok (.invokevirtual 438, 3) := by decide +kernel
theorem dX12_kind_29 : decode cX12_kind 29 = .ok (.aload_n 0, 1) := by decide +kernel
theorem dX12_kind_30 : decode cX12_kind 30 = .ok (.iconst 0, 1) := by decide +kernel
theorem dX12_kind_31 : decode cX12_kind 31 = .ok (.iload_n 1, 1) := by decide +kernel
theorem dX12_kind_32 : decode cX12_kind 32 = .ok (.iload_n 2, 1) := by decide +kernel
theorem dX12_kind_33 : decode cX12_kind 33 = .ok (.invokevirtual 407, 3) := by decide +kernel
theorem dX12_kind_36 : decode cX12_kind 36 = .ok (.aload_n 0, 1) := by decide +kernel
theorem dX12_kind_37 : decode cX12_kind 37 = .ok (.getfield 90, 3) := by decide +kernel
theorem dX12_kind_40 : decode cX12_kind 40 = .ok (.iload_n 1, 1) := by decide +kernel
theorem dX12_kind_41 : decode cX12_kind 41 = .ok (.iaload, 1) := by decide +kernel
theorem dX12_kind_42 : decode cX12_kind 42 = .ok (.ireturn, 1) := by decide +kernel
set_option maxRecDepth 20000 in
theorem ggX12_copy_X12_keepNow : GoodIn wsX12_copy wsX12_keepNow := goodIn_r _ [7, 8, 9, 10, 11, 6, 12, 13, 14, 15, 16, 2, 17, 18, 19, 20, 21, 22, 23, 24, 25, 26, 27, 28, 29, 30, 31, 32, 33, 34, 35, 36, 37, 38, 39, 40, 41, 42, 43, 44, 45, 46, 47, 48, 49, 50, 51, 52, 53, 54, 55, 56, 57, 58, 59, 60, 61, 62, 63, 64, 65, 66, 67, 68, 69, 70, 71, 72, 73, 74, 75, 76, 77, 78, 79, 80, 81, 82, 83, 84, 85, 86, 87, 88, 89] rfl (by decide +kernel)
set_option maxRecDepth 20000 in
theorem gX12_copy_X12_keepNow : GoodIn wsX12_copy (wsV RX12 438 RX12 yX12_keepNow wsX12_keepNow) := goodIn_app (goodIn_r _ [3, 4, 5, 6] rfl (by decide +kernel)) ggX12_copy_X12_keepNow
theorem dX12_copy_0 : decode cX12_copy 0 = .ok (.aload_n 0, 1) := by decide +kernel
theorem dX12_copy_1 : decode cX12_copy 1 = .ok (.iconst 0, 1) := by decide +kernel
theorem dX12_copy_2 : decode cX12_copy 2 = .ok (.putfield 145, 3) := by decide +kernel
theorem dX12_copy_5 : decode cX12_copy 5 = .ok (.aload_n 0, 1) := by decide +kernel
theorem dX12_copy_6 : decode cX12_copy 6 = .ok (.getfield 75, 3) := by decide +kernel
theorem dX12_copy_9 : decode cX12_copy 9 = .ok (.iconst 0, 1) := by decide +kernel
theorem dX12_copy_10 : decode cX12_copy 10 = .ok (.iaload, 1) := by decide +kernel
theorem dX12_copy_11 : decode cX12_copy 11 = .ok (.iconst 1, 1) := by decide +kernel
theorem dX12_copy_12 : decode cX12_copy 12 = .ok (.if_icmp .ne 7, 3) := by decide +kernel
theorem dX12_copy_15 : decode cX12_copy 15 = .ok (.iconst 1, 1) := by decide +kernel
theorem dX12_copy_16 : decode cX12_copy 16 = .ok (.goto 4, 3) := by decide +kernel
theorem dX12_copy_19 : decode cX12_copy 19 = .ok (.iconst 0, 1) := by decide +kernel
theorem dX12_copy_20 : decode cX12_copy 20 = .ok (.iload_n 1, 1) := by decide +kernel
theorem dX12_copy_21 : decode cX12_copy 21 = .ok (.if_icmp .ne 5, 3) := by decide +kernel
theorem dX12_copy_24 : decode cX12_copy 24 = .ok (.iconst 0, 1) := by decide +kernel
theorem dX12_copy_25 : decode cX12_copy 25 = .ok (.ireturn, 1) := by decide +kernel
theorem dX12_copy_26 : decode cX12_copy 26 = .ok (.aload_n 0, 1) := by decide +kernel
theorem dX12_copy_27 : decode cX12_copy 27 = .ok (.invokevirtual 438, 3) := by decide +kernel
theorem dX12_copy_30 : decode cX12_copy 30 = .ok (.aload_n 0, 1) := by decide +kernel
theorem dX12_copy_31 : decode cX12_copy 31 = .ok (.getfield 75, 3) := by decide +kernel
theorem dX12_copy_34 : decode cX12_copy 34 = .ok (.iconst 0, 1) := by decide +kernel
theorem dX12_copy_35 : decode cX12_copy 35 = .ok (.iload_n 1, 1) := by decide +kernel
theorem dX12_copy_36 : decode cX12_copy 36 = .ok (.ifCond .eq 7, 3) := by decide +kernel
theorem dX12_copy_39 : decode cX12_copy 39 = .ok (.iconst 1, 1) := by decide +kernel
theorem dX12_copy_40 : decode cX12_copy 40 = .ok (.goto 4, 3) := by decide +kernel
theorem dX12_copy_43 : decode cX12_copy 43 = .ok (.iconst 0, 1) := by decide +kernel
theorem dX12_copy_44 : decode cX12_copy 44 = .ok (.iastore, 1) := by decide +kernel
theorem dX12_copy_45 : decode cX12_copy 45 = .ok (.iconst 1, 1) := by decide +kernel
theorem dX12_copy_46 : decode cX12_copy 46 = .ok (.ireturn, 1) := by decide +kernel
set_option maxRecDepth 20000 in
theorem ggX12_go_X12_passes : GoodIn wsX12_go wsX12_passes := goodIn_r _ [8, 9, 10, 2, 11, 12, 13, 14, 15, 16, 17, 18, 19, 20, 7, 21, 22, 23, 24, 25, 26, 27, 28, 29, 30, 31, 32, 33, 34, 35, 36, 37, 38, 39, 40, 41, 42, 43, 44, 45, 46, 47, 48, 49, 50, 51, 52, 53, 54, 55, 56, 57, 58, 59, 60, 61, 62, 63, 64, 65, 66, 67, 68, 69, 70, 71, 72, 73, 74, 75, 76, 77, 78, 79, 80, 81, 82, 83, 84, 85, 86, 87, 88, 89, 90, 91, 92, 93, 94, 95, 96, 97, 98, 99, 100, 101, 102, 103, 104, 105, 106, 107, 108, 109, 110, 111, 112, 113, 114, 115, 116, 117, 118, 119, 120, 121, 122, 123, 124, 125, 126, 127, 128, 129, 130, 131, 132, 133, 134, 135, 136, 137, 138, 139, 140, 141, 142, 143, 144, 145, 146, 147, 148, 149, 150, 151, 152, 153, 154, 155, 156, 157, 158, 159, 160, 161, 162, 163, 164, 165, 166, 167, 168, 169, 170, 171, 172, 173, 174, 175, 176] rfl (by decide +kernel)
set_option maxRecDepth 20000 in
theorem gX12_go_X12_passes : GoodIn wsX12_go (wsV RX12 441 RX12 yX12_passes wsX12_passes) := goodIn_app (goodIn_r _ [4, 5, 6, 7] rfl (by decide +kernel)) ggX12_go_X12_passes
theorem dX12_go_0 : decode cX12_go 0 = .ok (.aload_n 0, 1) := by decide +kernel
theorem dX12_go_1 : decode cX12_go 1 = .ok (.iconst 0, 1) := by decide +kernel
theorem dX12_go_2 : decode cX12_go 2 = .ok (.putfield 145, 3) := by decide +kernel
theorem dX12_go_5 : decode cX12_go 5 = .ok (.iload_n 1, 1) := by decide +kernel
theorem dX12_go_6 : decode cX12_go 6 = .ok (.ifCond .lt 23, 3) := by decide +kernel
theorem dX12_go_9 : decode cX12_go 9 = .ok (.iload_n 1, 1) := by decide +kernel
theorem dX12_go_10 : decode cX12_go 10 = .ok (.bipush 99, 2) := by decide +kernel
theorem dX12_go_12 : decode cX12_go 12 = .ok (.if_icmp .gt 17, 3) := by decide +kernel
theorem dX12_go_15 : decode cX12_go 15 = .ok (.aload_n 0, 1) := by decide +kernel
theorem dX12_go_16 : decode cX12_go 16 = .ok (.getfield 63, 3) := by decide +kernel
theorem dX12_go_19 : decode cX12_go 19 = .ok (.iconst 0, 1) := by decide +kernel
theorem dX12_go_20 : decode cX12_go 20 = .ok (.iaload, 1) := by decide +kernel
theorem dX12_go_21 : decode cX12_go 21 = .ok (.iload_n 1, 1) := by decide +kernel
theorem dX12_go_22 : decode cX12_go 22 = .ok (.iadd, 1) := by decide +kernel
theorem dX12_go_23 : decode cX12_go 23 = .ok (.sipush 9900, 3) := by decide +kernel
theorem dX12_go_26 : decode cX12_go 26 = .ok (.if_icmp .le 5, 3) := by decide +kernel
theorem dX12_go_29 : decode cX12_go 29 = .ok (.iconst (-1), 1) := by decide +kernel
theorem dX12_go_30 : decode cX12_go 30 = .ok (.ireturn, 1) := by decide +kernel
theorem dX12_go_31 : decode cX12_go 31 = .ok (.iload_n 1, 1) := by decide +kernel
theorem dX12_go_32 : decode cX12_go 32 = .ok (.ifCond .le 8, 3) := by decide +kernel
theorem dX12_go_35 : decode cX12_go 35 = .ok (.aload_n 0, 1) := by decide +kernel
theorem dX12_go_36 : decode cX12_go 36 = .ok (.iconst 0, 1) := by decide +kernel
theorem dX12_go_37 : decode cX12_go 37 = .ok (.putfield 308, 3) := by decide +kernel
theorem dX12_go_40 : decode cX12_go 40 = .ok (.iconst 0, 1) := by decide +kernel
theorem dX12_go_41 : decode cX12_go 41 = .ok (.istore_n 2, 1) := by decide +kernel
theorem dX12_go_42 : decode cX12_go 42 = .ok (.iload_n 2, 1) := by decide +kernel
theorem dX12_go_43 : decode cX12_go 43 = .ok (.iload_n 1, 1) := by decide +kernel
theorem dX12_go_44 : decode cX12_go 44 = .ok (.if_icmp .ge 15, 3) := by decide +kernel
theorem dX12_go_47 : decode cX12_go 47 = .ok (.aload_n 0, 1) := by decide +kernel
theorem dX12_go_48 : decode cX12_go 48 = .ok (.iconst 0, 1) := by decide +kernel
theorem dX12_go_49 : decode cX12_go 49 = .ok (.iconst 1, 1) := by decide +kernel
theorem dX12_go_50 : decode cX12_go 50 = .ok (.invokevirtual 441, 3) := by decide +kernel
theorem dX12_go_53 : decode cX12_go 53 = .ok (.iinc 2 1, 3) := by decide +kernel
theorem dX12_go_56 : decode cX12_go 56 = .ok (.goto (-14), 3) := by decide +kernel
theorem dX12_go_59 : decode cX12_go 59 = .ok (.aload_n 0, 1) := by decide +kernel
theorem dX12_go_60 : decode cX12_go 60 = .ok (.getfield 63, 3) := by decide +kernel
theorem dX12_go_63 : decode cX12_go 63 = .ok (.iconst 0, 1) := by decide +kernel
theorem dX12_go_64 : decode cX12_go 64 = .ok (.iaload, 1) := by decide +kernel
theorem dX12_go_65 : decode cX12_go 65 = .ok (.ireturn, 1) := by decide +kernel
set_option maxRecDepth 20000 in
theorem ggX12_firstAdrift_X12_takes : GoodIn wsX12_firstAdrift wsX12_takes := goodIn_r _ [7, 8, 9, 10, 11, 12, 13, 2, 14, 15, 16, 17, 18, 114, 115, 116, 117, 118, 119, 120, 121, 122, 123, 124, 125, 126, 127, 128, 129, 130, 131, 132, 133, 134, 135, 136, 137, 138, 139, 140, 141, 142, 143, 144, 145, 146, 147, 148, 149, 150, 151, 152, 153, 154, 155, 156, 157, 158, 159, 160, 161, 162, 163, 164, 165, 166, 167, 168, 169, 170, 171, 172, 173, 174, 175, 176, 177, 178, 179] rfl (by decide +kernel)
set_option maxRecDepth 20000 in
theorem gX12_firstAdrift_X12_takes : GoodIn wsX12_firstAdrift (wsV RX12 435 RX12 yX12_takes wsX12_takes) := goodIn_app (goodIn_r _ [3, 4, 5, 6] rfl (by decide +kernel)) ggX12_firstAdrift_X12_takes
set_option maxRecDepth 20000 in
theorem ggX12_firstAdrift_X12_passes : GoodIn wsX12_firstAdrift wsX12_passes := goodIn_r _ [22, 23, 24, 8, 25, 26, 27, 11, 10, 9, 14, 28, 29, 30, 6, 31, 32, 33, 34, 35, 36, 37, 38, 16, 39, 40, 41, 42, 17, 18, 43, 44, 45, 46, 12, 13, 2, 47, 48, 49, 50, 51, 52, 53, 15, 54, 55, 56, 57, 58, 59, 60, 61, 62, 63, 64, 65, 66, 67, 68, 69, 70, 71, 72, 73, 74, 75, 76, 77, 78, 79, 80, 81, 82, 83, 84, 85, 86, 87, 88, 89, 90, 91, 92, 93, 94, 95, 96, 97, 98, 99, 100, 101, 102, 103, 104, 105, 106, 107, 108, 109, 110, 111, 112, 113, 114, 115, 116, 117, 118, 119, 120, 121, 122, 123, 124, 125, 126, 127, 128, 129, 130, 131, 132, 133, 134, 135, 136, 137, 138, 139, 140, 141, 142, 143, 144, 145, 146, 147, 148, 149, 150, 151, 152, 153, 154, 155, 156, 157, 158, 159, 160, 161, 162, 163, 164, 165, 166, 167, 168, 169, 170, 171, 172, 173, 174, 175, 176, 177, 178, 179] rfl (by decide +kernel)
set_option maxRecDepth 20000 in
theorem gX12_firstAdrift_X12_passes : GoodIn wsX12_firstAdrift (wsV RX12 441 RX12 yX12_passes wsX12_passes) := goodIn_app (goodIn_r _ [19, 20, 21, 6] rfl (by decide +kernel)) ggX12_firstAdrift_X12_passes
theorem dX12_firstAdrift_0 : decode cX12_firstAdrift 0 = .ok (.aload_n 0, 1) := by decide +kernel
theorem dX12_firstAdrift_1 : decode cX12_firstAdrift 1 = .ok (.iconst 0, 1) := by decide +kernel
theorem dX12_firstAdrift_2 : decode cX12_firstAdrift 2 = .ok (.putfield 145, 3) := by decide +kernel
theorem dX12_firstAdrift_5 : decode cX12_firstAdrift 5 = .ok (.iload_n 1, 1) := by decide +kernel
theorem dX12_firstAdrift_6 : decode cX12_firstAdrift 6 = .ok (.iconst 1, 1) := by decide +kernel
theorem dX12_firstAdrift_7 : decode cX12_firstAdrift 7 = .ok (.if_icmp .lt 9, 3) := by decide +kernel
theorem dX12_firstAdrift_10 : decode cX12_firstAdrift 10 = .ok (.iload_n 1, 1) := by decide +kernel
theorem dX12_firstAdrift_11 : decode cX12_firstAdrift 11 = .ok (.bipush 99, 2) := by decide +kernel
theorem dX12_firstAdrift_13 : decode cX12_firstAdrift 13 = .ok (.if_icmp .le 5, 3) := by decide +kernel
theorem dX12_firstAdrift_16 : decode cX12_firstAdrift 16 = .ok (.iconst (-1), 1) := by decide +kernel
theorem dX12_firstAdrift_17 : decode cX12_firstAdrift 17 = .ok (.ireturn, 1) := by decide +kernel
theorem dX12_firstAdrift_18 : decode cX12_firstAdrift 18 = .ok (.aload_n 0, 1) := by decide +kernel
theorem dX12_firstAdrift_19 : decode cX12_firstAdrift 19 = .ok (.iconst 1, 1) := by decide +kernel
theorem dX12_firstAdrift_20 : decode cX12_firstAdrift 20 = .ok (.iconst 0, 1) := by decide +kernel
theorem dX12_firstAdrift_21 : decode cX12_firstAdrift 21 = .ok (.invokevirtual 435, 3) := by decide +kernel
theorem dX12_firstAdrift_24 : decode cX12_firstAdrift 24 = .ok (.iconst 1, 1) := by decide +kernel
theorem dX12_firstAdrift_25 : decode cX12_firstAdrift 25 = .ok (.istore_n 2, 1) := by decide +kernel
theorem dX12_firstAdrift_26 : decode cX12_firstAdrift 26 = .ok (.iload_n 2, 1) := by decide +kernel
theorem dX12_firstAdrift_27 : decode cX12_firstAdrift 27 = .ok (.iload_n 1, 1) := by decide +kernel
theorem dX12_firstAdrift_28 : decode cX12_firstAdrift 28 = .ok (.if_icmp .gt 32, 3) := by decide +kernel
theorem dX12_firstAdrift_31 : decode cX12_firstAdrift 31 = .ok (.aload_n 0, 1) := by decide +kernel
theorem dX12_firstAdrift_32 : decode cX12_firstAdrift 32 = .ok (.iconst 1, 1) := by decide +kernel
theorem dX12_firstAdrift_33 : decode cX12_firstAdrift 33 = .ok (.iconst 0, 1) := by decide +kernel
theorem dX12_firstAdrift_34 : decode cX12_firstAdrift 34 = .ok (.invokevirtual 441, 3) := by decide +kernel
theorem dX12_firstAdrift_37 : decode cX12_firstAdrift 37 = .ok (.aload_n 0, 1) := by decide +kernel
theorem dX12_firstAdrift_38 : decode cX12_firstAdrift 38 = .ok (.getfield 81, 3) := by decide +kernel
theorem dX12_firstAdrift_41 : decode cX12_firstAdrift 41 = .ok (.iconst 1, 1) := by decide +kernel
theorem dX12_firstAdrift_42 : decode cX12_firstAdrift 42 = .ok (.iaload, 1) := by decide +kernel
theorem dX12_firstAdrift_43 : decode cX12_firstAdrift 43 = .ok (.aload_n 0, 1) := by decide +kernel
theorem dX12_firstAdrift_44 : decode cX12_firstAdrift 44 = .ok (.getfield 81, 3) := by decide +kernel
theorem dX12_firstAdrift_47 : decode cX12_firstAdrift 47 = .ok (.iconst 0, 1) := by decide +kernel
theorem dX12_firstAdrift_48 : decode cX12_firstAdrift 48 = .ok (.iaload, 1) := by decide +kernel
theorem dX12_firstAdrift_49 : decode cX12_firstAdrift 49 = .ok (.if_icmp .le 5, 3) := by decide +kernel
theorem dX12_firstAdrift_52 : decode cX12_firstAdrift 52 = .ok (.iload_n 2, 1) := by decide +kernel
theorem dX12_firstAdrift_53 : decode cX12_firstAdrift 53 = .ok (.ireturn, 1) := by decide +kernel
theorem dX12_firstAdrift_54 : decode cX12_firstAdrift 54 = .ok (.iinc 2 1, 3) := by decide +kernel
theorem dX12_firstAdrift_57 : decode cX12_firstAdrift 57 = .ok (.goto (-31), 3) := by decide +kernel
theorem dX12_firstAdrift_60 : decode cX12_firstAdrift 60 = .ok (.bipush (-2), 2) := by decide +kernel
theorem dX12_firstAdrift_62 : decode cX12_firstAdrift 62 = .ok (.ireturn, 1) := by decide +kernel
theorem dX12_fewer_0 : decode cX12_fewer 0 = .ok (.iload_n 0, 1) := by decide +kernel
theorem dX12_fewer_1 : decode cX12_fewer 1 = .ok (.iconst (-1), 1) := by decide +kernel
theorem dX12_fewer_2 : decode cX12_fewer 2 = .ok (.if_icmp .ne 7, 3) := by decide +kernel
theorem dX12_fewer_5 : decode cX12_fewer 5 = .ok (.iload_n 1, 1) := by decide +kernel
theorem dX12_fewer_6 : decode cX12_fewer 6 = .ok (.goto 17, 3) := by decide +kernel
theorem dX12_fewer_9 : decode cX12_fewer 9 = .ok (.iload_n 1, 1) := by decide +kernel
theorem dX12_fewer_10 : decode cX12_fewer 10 = .ok (.iconst (-1), 1) := by decide +kernel
theorem dX12_fewer_11 : decode cX12_fewer 11 = .ok (.if_icmp .ne 7, 3) := by decide +kernel
theorem dX12_fewer_14 : decode cX12_fewer 14 = .ok (.iload_n 0, 1) := by decide +kernel
theorem dX12_fewer_15 : decode cX12_fewer 15 = .ok (.goto 8, 3) := by decide +kernel
theorem dX12_fewer_18 : decode cX12_fewer 18 = .ok (.iload_n 0, 1) := by decide +kernel
theorem dX12_fewer_19 : decode cX12_fewer 19 = .ok (.iload_n 1, 1) := by decide +kernel
theorem dX12_fewer_20 : decode cX12_fewer 20 = .ok (.invokestatic 340, 3) := by decide +kernel
theorem dX12_fewer_23 : decode cX12_fewer 23 = .ok (.ireturn, 1) := by decide +kernel
set_option maxRecDepth 20000 in
theorem ggX12_layWays_X12_willHold : GoodIn wsX12_layWays wsX12_willHold := goodIn_r _ [12, 13, 14, 15, 16, 17, 18, 11, 19, 20, 21, 22, 7, 3, 23, 24, 25, 26, 27, 28, 29, 30, 31, 32, 33, 34, 35, 36, 37, 38, 39, 40, 41, 42, 43, 44, 45, 46, 47, 48, 49, 50, 51, 52, 53, 54, 55, 56, 57, 58, 59, 60, 61, 62, 63, 64, 65, 66, 67, 68, 69, 70, 71, 72, 73, 74, 75, 76, 77, 78, 79, 80, 81, 82, 83, 84, 85, 86, 87, 88, 89, 90, 91, 92, 93, 94, 95, 96, 111, 112, 113, 114, 115, 116, 117, 118, 119, 120, 121, 122, 123, 124, 125, 126, 127, 128, 129, 130, 131, 132, 133, 134, 135, 136, 137, 138, 139, 140, 141, 142, 143, 144, 145, 146, 147, 148, 149, 150, 151, 152, 153, 154, 155, 156, 157, 158, 159, 160, 161, 162, 163, 164, 165, 166, 167, 168, 169, 170, 171, 172, 173, 174, 175, 176] rfl (by decide +kernel)
set_option maxRecDepth 20000 in
theorem gX12_layWays_X12_willHold : GoodIn wsX12_layWays (wsV RX12 427 RX12 yX12_willHold wsX12_willHold) := goodIn_app (goodIn_r _ [8, 9, 10, 11] rfl (by decide +kernel)) ggX12_layWays_X12_willHold
set_option maxRecDepth 20000 in
theorem ggX12_layWays_X12_fewer : GoodIn wsX12_layWays wsX12_fewer := goodIn_r _ [99, 29, 30, 31, 32] rfl (by decide +kernel)
set_option maxRecDepth 20000 in
theorem gX12_layWays_X12_fewer : GoodIn wsX12_layWays (va_wsS RX12 444 yX12_fewer wsX12_fewer) := goodIn_app (goodIn_of _ (by decide +kernel)) ggX12_layWays_X12_fewer
set_option maxRecDepth 20000 in
theorem ggX12_layWays_X12_laneOf : GoodIn wsX12_layWays wsX12_laneOf := goodIn_r _ [103, 3, 104, 105, 106, 111, 112, 113, 114, 115, 116, 117, 118, 119, 120, 121, 122, 123, 124, 125, 126, 127, 128, 129, 130, 131, 132, 133, 134, 135, 136, 137, 138, 139, 140, 141, 142, 143, 144, 145, 146, 147, 148, 149, 150, 151, 152, 153, 154, 155, 156, 157, 158, 159, 160, 161, 162, 163, 164, 165, 166, 167, 168, 169, 170, 171, 172, 173, 174, 175, 176] rfl (by decide +kernel)
set_option maxRecDepth 20000 in
theorem gX12_layWays_X12_laneOf : GoodIn wsX12_layWays (wsV RX12 418 RX12 yX12_laneOf wsX12_laneOf) := goodIn_app (goodIn_r _ [100, 101, 102, 11] rfl (by decide +kernel)) ggX12_layWays_X12_laneOf
set_option maxRecDepth 20000 in
theorem ggX12_layWays_X12_comesIn : GoodIn wsX12_layWays wsX12_comesIn := goodIn_r _ [110, 7, 2, 1, 8, 9, 10, 11, 12, 13, 14, 15, 16, 17, 18, 19, 20, 21, 22, 3, 23, 24, 25, 26, 27, 28, 29, 30, 31, 32, 33, 34, 35, 36, 37, 38, 39, 40, 41, 42, 43, 44, 45, 46, 47, 48, 49, 50, 51, 52, 53, 54, 55, 56, 57, 58, 59, 60, 61, 62, 63, 64, 65, 66, 67, 68, 69, 70, 71, 72, 73, 74, 75, 76, 77, 78, 79, 80, 81, 82, 83, 84, 85, 86, 87, 88, 89, 90, 91, 92, 93, 94, 95, 96, 97, 98, 99, 111, 112, 113, 114, 115, 116, 117, 118, 119, 120, 121, 122, 123, 124, 125, 126, 127, 128, 129, 130, 131, 132, 133, 134, 135, 136, 137, 138, 139, 140, 141, 142, 143, 144, 145, 146, 147, 148, 149, 150, 151, 152, 153, 154, 155, 156, 157, 158, 159, 160, 161, 162, 163, 164, 165, 166, 167, 168, 169, 170, 171, 172, 173, 174, 175, 176] rfl (by decide +kernel)
set_option maxRecDepth 20000 in
theorem gX12_layWays_X12_comesIn : GoodIn wsX12_layWays (wsV RX12 447 RX12 yX12_comesIn wsX12_comesIn) := goodIn_app (goodIn_r _ [107, 108, 109, 11] rfl (by decide +kernel)) ggX12_layWays_X12_comesIn
theorem dX12_layWays_0 : decode cX12_layWays 0 = .ok (.iconst 0, 1) := by decide +kernel
theorem dX12_layWays_1 : decode cX12_layWays 1 = .ok (.istore_n 1, 1) := by decide +kernel
theorem dX12_layWays_2 : decode cX12_layWays 2 = .ok (.iload_n 1, 1) := by decide +kernel
theorem dX12_layWays_3 : decode cX12_layWays 3 = .ok (.sipush 504, 3) := by decide +kernel
theorem dX12_layWays_6 : decode cX12_layWays 6 = .ok (.if_icmp .ge 23, 3) := by decide +kernel
theorem dX12_layWays_9 : decode cX12_layWays 9 = .ok (.aload_n 0, 1) := by decide +kernel
theorem dX12_layWays_10 : decode cX12_layWays 10 = .ok (.getfield 108, 3) := by decide +kernel
theorem dX12_layWays_13 : decode cX12_layWays 13 = .ok (.iload_n 1, 1) := by decide +kernel
theorem dX12_layWays_14 : decode cX12_layWays 14 = .ok (.iconst (-1), 1) := by decide +kernel
theorem dX12_layWays_15 : decode cX12_layWays 15 = .ok (.iastore, 1) := by decide +kernel
theorem dX12_layWays_16 : decode cX12_layWays 16 = .ok (.aload_n 0, 1) := by decide +kernel
theorem dX12_layWays_17 : decode cX12_layWays 17 = .ok (.getfield 111, 3) := by decide +kernel
theorem dX12_layWays_20 : decode cX12_layWays 20 = .ok (.iload_n 1, 1) := by decide +kernel
theorem dX12_layWays_21 : decode cX12_layWays 21 = .ok (.iconst (-1), 1) := by decide +kernel
theorem dX12_layWays_22 : decode cX12_layWays 22 = .ok (.iastore, 1) := by decide +kernel
theorem dX12_layWays_23 : decode cX12_layWays 23 = .ok (.iinc 1 1, 3) := by decide +kernel
theorem dX12_layWays_26 : decode cX12_layWays 26 = .ok (.goto (-24), 3) := by decide +kernel
theorem dX12_layWays_29 : decode cX12_layWays 29 = .ok (.aload_n 0, 1) := by decide +kernel
theorem dX12_layWays_30 : decode cX12_layWays 30 = .ok (.getfield 13, 3) := by decide +kernel
theorem dX12_layWays_33 : decode cX12_layWays 33 = .ok (.iconst 0, 1) := by decide +kernel
theorem dX12_layWays_34 : decode cX12_layWays 34 = .ok (.iaload, 1) := by decide +kernel
theorem dX12_layWays_35 : decode cX12_layWays 35 = .ok (.ifCond .ne 4, 3) := by decide +kernel
theorem dX12_layWays_38 : decode cX12_layWays 38 = .ok (.return_, 1) := by decide +kernel
theorem dX12_layWays_39 : decode cX12_layWays 39 = .ok (.aload_n 0, 1) := by decide +kernel
theorem dX12_layWays_40 : decode cX12_layWays 40 = .ok (.getfield 69, 3) := by decide +kernel
theorem dX12_layWays_43 : decode cX12_layWays 43 = .ok (.iconst 0, 1) := by decide +kernel
theorem dX12_layWays_44 : decode cX12_layWays 44 = .ok (.iaload, 1) := by decide +kernel
theorem dX12_layWays_45 : decode cX12_layWays 45 = .ok (.iconst (-1), 1) := by decide +kernel
theorem dX12_layWays_46 : decode cX12_layWays 46 = .ok (.if_icmp .ne 30, 3) := by decide +kernel
theorem dX12_layWays_49 : decode cX12_layWays 49 = .ok (.aload_n 0, 1) := by decide +kernel
theorem dX12_layWays_50 : decode cX12_layWays 50 = .ok (.getfield 111, 3) := by decide +kernel
theorem dX12_layWays_53 : decode cX12_layWays 53 = .ok (.aload_n 0, 1) := by decide +kernel
theorem dX12_layWays_54 : decode cX12_layWays 54 = .ok (.getfield 66, 3) := by decide +kernel
theorem dX12_layWays_57 : decode cX12_layWays 57 = .ok (.iconst 0, 1) := by decide +kernel
theorem dX12_layWays_58 : decode cX12_layWays 58 = .ok (.iaload, 1) := by decide +kernel
theorem dX12_layWays_59 : decode cX12_layWays 59 = .ok (.iconst 0, 1) := by decide +kernel
theorem dX12_layWays_60 : decode cX12_layWays 60 = .ok (.iastore, 1) := by decide +kernel
theorem dX12_layWays_61 : decode cX12_layWays 61 = .ok (.aload_n 0, 1) := by decide +kernel
theorem dX12_layWays_62 : decode cX12_layWays 62 = .ok (.getfield 108, 3) := by decide +kernel
theorem dX12_layWays_65 : decode cX12_layWays 65 = .ok (.aload_n 0, 1) := by decide +kernel
theorem dX12_layWays_66 : decode cX12_layWays 66 = .ok (.getfield 66, 3) := by decide +kernel
theorem dX12_layWays_69 : decode cX12_layWays 69 = .ok (.iconst 0, 1) := by decide +kernel
theorem dX12_layWays_70 : decode cX12_layWays 70 = .ok (.iaload, 1) := by decide +kernel
theorem dX12_layWays_71 : decode cX12_layWays 71 = .ok (.iconst 0, 1) := by decide +kernel
theorem dX12_layWays_72 : decode cX12_layWays 72 = .ok (.iastore, 1) := by decide +kernel
theorem dX12_layWays_73 : decode cX12_layWays 73 = .ok (.goto 61, 3) := by decide +kernel
theorem dX12_layWays_76 : decode cX12_layWays 76 = .ok (.aload_n 0, 1) := by decide +kernel
theorem dX12_layWays_77 : decode cX12_layWays 77 = .ok (.getfield 111, 3) := by decide +kernel
theorem dX12_layWays_80 : decode cX12_layWays 80 = .ok (.bipush 8, 2) := by decide +kernel
theorem dX12_layWays_82 : decode cX12_layWays 82 = .ok (.aload_n 0, 1) := by decide +kernel
theorem dX12_layWays_83 : decode cX12_layWays 83 = .ok (.getfield 72, 3) := by decide +kernel
theorem dX12_layWays_86 : decode cX12_layWays 86 = .ok (.iconst 0, 1) := by decide +kernel
theorem dX12_layWays_87 : decode cX12_layWays 87 = .ok (.iaload, 1) := by decide +kernel
theorem dX12_layWays_88 : decode cX12_layWays 88 = .ok (.aload_n 0, 1) := by decide +kernel
theorem dX12_layWays_89 : decode cX12_layWays 89 = .ok (.getfield 63, 3) := by decide +kernel
theorem dX12_layWays_92 : decode cX12_layWays 92 = .ok (.iconst 0, 1) := by decide +kernel
theorem dX12_layWays_93 : decode cX12_layWays 93 = .ok (.iaload, 1) := by decide +kernel
theorem dX12_layWays_94 : decode cX12_layWays 94 = .ok (.isub, 1) := by decide +kernel
theorem dX12_layWays_95 : decode cX12_layWays 95 = .ok (.imul, 1) := by decide +kernel
theorem dX12_layWays_96 : decode cX12_layWays 96 = .ok (.aload_n 0, 1) := by decide +kernel
theorem dX12_layWays_97 : decode cX12_layWays 97 = .ok (.getfield 69, 3) := by decide +kernel
