set_option maxRecDepth 20000 in
theorem ggX10_storms_X10_isNoForce : GoodIn wsX10_storms wsX10_isNoForce := goodIn_r _ [7, 8, 9, 6, 10] (by decide +kernel) (by decide +kernel)
set_option maxRecDepth 20000 in
theorem gX10_storms_X10_isNoForce : GoodIn wsX10_storms (va_wsS RX10 177 yX10_isNoForce wsX10_isNoForce) := goodIn_app (goodIn_of _ (by decide +kernel)) ggX10_storms_X10_isNoForce
set_option maxRecDepth 20000 in
theorem ggX10_storms_X10_isOutside : GoodIn wsX10_storms wsX10_isOutside := goodIn_r _ [10] (by decide +kernel) (by decide +kernel)
set_option maxRecDepth 20000 in
theorem gX10_storms_X10_isOutside : GoodIn wsX10_storms (va_wsS RX10 87 yX10_isOutside wsX10_isOutside) := goodIn_app (goodIn_of _ (by decide +kernel)) ggX10_storms_X10_isOutside
set_option maxRecDepth 20000 in
theorem ggX10_storms_X6_remembers : GoodIn wsX10_storms wsX6_remembers := goodIn_r _ [14, 15, 16, 17, 6, 18, 19, 20, 21, 22, 76, 77, 78] (by decide +kernel) (by decide +kernel)
set_option maxRecDepth 20000 in
theorem gX10_storms_X6_remembers_n180 : GoodIn wsX10_storms (wsX6_remembers) := ggX10_storms_X6_remembers
set_option maxRecDepth 20000 in
theorem ggX10_storms_X8_blowsOver : GoodIn wsX10_storms wsX8_blowsOver := goodIn_r _ [26, 27, 28, 29, 30, 31, 24, 32, 33, 6, 34, 35, 36, 37, 38, 39, 40, 41, 42, 43, 44, 45, 46, 47, 48, 49, 50, 51, 52, 53, 54, 55, 56, 57, 58, 59, 60, 9, 10, 61, 62, 63, 79, 80, 81, 82, 83, 84, 85, 86, 87, 88, 89, 90, 91, 92, 78] (by decide +kernel) (by decide +kernel)
set_option maxRecDepth 20000 in
theorem gX10_storms_X8_blowsOver_n183 : GoodIn wsX10_storms (wsX8_blowsOver) := ggX10_storms_X8_blowsOver
theorem dX10_storms_0 : decode cX10_storms 0 = .ok (.iload_n 1, 1) := by decide +kernel
theorem dX10_storms_1 : decode cX10_storms 1 = .ok (.invokestatic 177, 3) := by decide +kernel
theorem dX10_storms_4 : decode cX10_storms 4 = .ok (.ifCond .ne 12, 3) := by decide +kernel
theorem dX10_storms_7 : decode cX10_storms 7 = .ok (.iload_n 2, 1) := by decide +kernel
theorem dX10_storms_8 : decode cX10_storms 8 = .ok (.iconst 0, 1) := by decide +kernel
theorem dX10_storms_9 : decode cX10_storms 9 = .ok (.iconst 1, 1) := by decide +kernel
theorem dX10_storms_10 : decode cX10_storms 10 = .ok (.invokestatic 87, 3) := by decide +kernel
theorem dX10_storms_13 : decode cX10_storms 13 = .ok (.ifCond .eq 5, 3) := by decide +kernel
theorem dX10_storms_16 : decode cX10_storms 16 = .ok (.iconst (-1), 1) := by decide +kernel
theorem dX10_storms_17 : decode cX10_storms 17 = .ok (.ireturn, 1) := by decide +kernel
theorem dX10_storms_18 : decode cX10_storms 18 = .ok (.aload_n 0, 1) := by decide +kernel
theorem dX10_storms_19 : decode cX10_storms 19 = .ok (.getfield 29, 3) := by decide +kernel
theorem dX10_storms_22 : decode cX10_storms 22 = .ok (.aload_n 0, 1) := by decide +kernel
theorem dX10_storms_23 : decode cX10_storms 23 = .ok (.getfield 22, 3) := by decide +kernel
theorem dX10_storms_26 : decode cX10_storms 26 = .ok (.invokevirtual 180, 3) := by decide +kernel
theorem dX10_storms_29 : decode cX10_storms 29 = .ok (.aload_n 0, 1) := by decide +kernel
theorem dX10_storms_30 : decode cX10_storms 30 = .ok (.getfield 55, 3) := by decide +kernel
theorem dX10_storms_33 : decode cX10_storms 33 = .ok (.aload_n 0, 1) := by decide +kernel
theorem dX10_storms_34 : decode cX10_storms 34 = .ok (.getfield 22, 3) := by decide +kernel
theorem dX10_storms_37 : decode cX10_storms 37 = .ok (.iload_n 1, 1) := by decide +kernel
theorem dX10_storms_38 : decode cX10_storms 38 = .ok (.iload_n 2, 1) := by decide +kernel
theorem dX10_storms_39 : decode cX10_storms 39 = .ok (.invokevirtual 183, 3) := by decide +kernel
theorem dX10_storms_42 : decode cX10_storms 42 = .ok (.ireturn, 1) := by decide +kernel
set_option maxRecDepth 20000 in
theorem ggX10_pays_X10_isNoAnchor : GoodIn wsX10_pays wsX10_isNoAnchor := goodIn_r _ [7, 8, 9, 10, 6, 11, 40, 41, 42, 43, 44, 45, 46, 47, 48, 49, 50, 51, 52, 53, 54, 55, 56, 57, 58, 59, 60, 61] (by decide +kernel) (by decide +kernel)
set_option maxRecDepth 20000 in
theorem gX10_pays_X10_isNoAnchor : GoodIn wsX10_pays (wsV RX10 156 RX10 yX10_isNoAnchor wsX10_isNoAnchor) := goodIn_app (goodIn_of _ (by decide +kernel)) ggX10_pays_X10_isNoAnchor
set_option maxRecDepth 20000 in
theorem ggX10_pays_X10_isOutside : GoodIn wsX10_pays wsX10_isOutside := goodIn_r _ [11] (by decide +kernel) (by decide +kernel)
set_option maxRecDepth 20000 in
theorem gX10_pays_X10_isOutside : GoodIn wsX10_pays (va_wsS RX10 87 yX10_isOutside wsX10_isOutside) := goodIn_app (goodIn_of _ (by decide +kernel)) ggX10_pays_X10_isOutside
set_option maxRecDepth 20000 in
theorem ggX10_pays_X5_get : GoodIn wsX10_pays wsX5_get := goodIn_r _ [15, 16, 17, 6, 18, 62] (by decide +kernel) (by decide +kernel)
set_option maxRecDepth 20000 in
theorem gX10_pays_X5_get_n139 : GoodIn wsX10_pays (wsX5_get) := ggX10_pays_X5_get
set_option maxRecDepth 20000 in
theorem ggX10_pays_X5_lies : GoodIn wsX10_pays wsX5_lies := goodIn_r _ [21, 22, 12, 14, 13, 15, 16, 17, 6, 18, 62] (by decide +kernel) (by decide +kernel)
set_option maxRecDepth 20000 in
theorem gX10_pays_X5_lies_n168 : GoodIn wsX10_pays (wsX5_lies) := ggX10_pays_X5_lies
set_option maxRecDepth 20000 in
theorem ggX10_pays_X6_remembers : GoodIn wsX10_pays wsX6_remembers := goodIn_r _ [26, 27, 28, 29, 6, 30, 31, 32, 33, 34, 63, 64, 62] (by decide +kernel) (by decide +kernel)
set_option maxRecDepth 20000 in
theorem gX10_pays_X6_remembers_n180 : GoodIn wsX10_pays (wsX6_remembers) := ggX10_pays_X6_remembers
set_option maxRecDepth 20000 in
theorem ggX10_pays_X5_set : GoodIn wsX10_pays wsX5_set := goodIn_r _ [37, 16, 38, 6, 39, 62] (by decide +kernel) (by decide +kernel)
set_option maxRecDepth 20000 in
theorem gX10_pays_X5_set_n187 : GoodIn wsX10_pays (wsX5_set) := ggX10_pays_X5_set
theorem dX10_pays_0 : decode cX10_pays 0 = .ok (.aload_n 0, 1) := by decide +kernel
theorem dX10_pays_1 : decode cX10_pays 1 = .ok (.iload_n 1, 1) := by decide +kernel
theorem dX10_pays_2 : decode cX10_pays 2 = .ok (.invokevirtual 156, 3) := by decide +kernel
theorem dX10_pays_5 : decode cX10_pays 5 = .ok (.ifCond .ne 18, 3) := by decide +kernel
theorem dX10_pays_8 : decode cX10_pays 8 = .ok (.iload_n 2, 1) := by decide +kernel
theorem dX10_pays_9 : decode cX10_pays 9 = .ok (.ifCond .eq 14, 3) := by decide +kernel
theorem dX10_pays_12 : decode cX10_pays 12 = .ok (.iload_n 2, 1) := by decide +kernel
theorem dX10_pays_13 : decode cX10_pays 13 = .ok (.bipush (-9), 2) := by decide +kernel
theorem dX10_pays_15 : decode cX10_pays 15 = .ok (.bipush 9, 2) := by decide +kernel
theorem dX10_pays_17 : decode cX10_pays 17 = .ok (.invokestatic 87, 3) := by decide +kernel
theorem dX10_pays_20 : decode cX10_pays 20 = .ok (.ifCond .eq 5, 3) := by decide +kernel
theorem dX10_pays_23 : decode cX10_pays 23 = .ok (.iconst (-1), 1) := by decide +kernel
theorem dX10_pays_24 : decode cX10_pays 24 = .ok (.ireturn, 1) := by decide +kernel
theorem dX10_pays_25 : decode cX10_pays 25 = .ok (.aload_n 0, 1) := by decide +kernel
theorem dX10_pays_26 : decode cX10_pays 26 = .ok (.getfield 22, 3) := by decide +kernel
theorem dX10_pays_29 : decode cX10_pays 29 = .ok (.bipush 8, 2) := by decide +kernel
theorem dX10_pays_31 : decode cX10_pays 31 = .ok (.iload_n 1, 1) := by decide +kernel
theorem dX10_pays_32 : decode cX10_pays 32 = .ok (.invokevirtual 139, 3) := by decide +kernel
theorem dX10_pays_35 : decode cX10_pays 35 = .ok (.iload_n 2, 1) := by decide +kernel
theorem dX10_pays_36 : decode cX10_pays 36 = .ok (.iadd, 1) := by decide +kernel
theorem dX10_pays_37 : decode cX10_pays 37 = .ok (.istore_n 3, 1) := by decide +kernel
theorem dX10_pays_38 : decode cX10_pays 38 = .ok (.aload_n 0, 1) := by decide +kernel
theorem dX10_pays_39 : decode cX10_pays 39 = .ok (.getfield 22, 3) := by decide +kernel
theorem dX10_pays_42 : decode cX10_pays 42 = .ok (.iload_n 1, 1) := by decide +kernel
theorem dX10_pays_43 : decode cX10_pays 43 = .ok (.invokevirtual 168, 3) := by decide +kernel
theorem dX10_pays_46 : decode cX10_pays 46 = .ok (.ifCond .eq 13, 3) := by decide +kernel
theorem dX10_pays_49 : decode cX10_pays 49 = .ok (.iload_n 3, 1) := by decide +kernel
theorem dX10_pays_50 : decode cX10_pays 50 = .ok (.iconst 1, 1) := by decide +kernel
theorem dX10_pays_51 : decode cX10_pays 51 = .ok (.bipush 60, 2) := by decide +kernel
theorem dX10_pays_53 : decode cX10_pays 53 = .ok (.invokestatic 87, 3) := by decide +kernel
theorem dX10_pays_56 : decode cX10_pays 56 = .ok (.ifCond .eq 6, 3) := by decide +kernel
theorem dX10_pays_59 : decode cX10_pays 59 = .ok (.bipush (-2), 2) := by decide +kernel
theorem dX10_pays_61 : decode cX10_pays 61 = .ok (.ireturn, 1) := by decide +kernel
theorem dX10_pays_62 : decode cX10_pays 62 = .ok (.aload_n 0, 1) := by decide +kernel
theorem dX10_pays_63 : decode cX10_pays 63 = .ok (.getfield 29, 3) := by decide +kernel
theorem dX10_pays_66 : decode cX10_pays 66 = .ok (.aload_n 0, 1) := by decide +kernel
theorem dX10_pays_67 : decode cX10_pays 67 = .ok (.getfield 22, 3) := by decide +kernel
theorem dX10_pays_70 : decode cX10_pays 70 = .ok (.invokevirtual 180, 3) := by decide +kernel
theorem dX10_pays_73 : decode cX10_pays 73 = .ok (.aload_n 0, 1) := by decide +kernel
theorem dX10_pays_74 : decode cX10_pays 74 = .ok (.getfield 22, 3) := by decide +kernel
theorem dX10_pays_77 : decode cX10_pays 77 = .ok (.bipush 8, 2) := by decide +kernel
theorem dX10_pays_79 : decode cX10_pays 79 = .ok (.iload_n 1, 1) := by decide +kernel
theorem dX10_pays_80 : decode cX10_pays 80 = .ok (.iload_n 3, 1) := by decide +kernel
theorem dX10_pays_81 : decode cX10_pays 81 = .ok (.invokevirtual 187, 3) := by decide +kernel
theorem dX10_pays_84 : decode cX10_pays 84 = .ok (.iload_n 3, 1) := by decide +kernel
theorem dX10_pays_85 : decode cX10_pays 85 = .ok (.ireturn, 1) := by decide +kernel
set_option maxRecDepth 20000 in
theorem ggX10_dies_X10_isNoRaft : GoodIn wsX10_dies wsX10_isNoRaft := goodIn_r _ [7, 8, 9, 10, 6, 11, 56, 57, 58, 59, 60, 61, 62, 63, 64, 65, 66, 67, 68, 69, 70, 71, 72, 73, 74, 75, 76, 77] (by decide +kernel) (by decide +kernel)
set_option maxRecDepth 20000 in
theorem gX10_dies_X10_isNoRaft : GoodIn wsX10_dies (wsV RX10 136 RX10 yX10_isNoRaft wsX10_isNoRaft) := goodIn_app (goodIn_of _ (by decide +kernel)) ggX10_dies_X10_isNoRaft
set_option maxRecDepth 20000 in
theorem ggX10_dies_X5_isGone : GoodIn wsX10_dies wsX5_isGone := goodIn_r _ [15, 16, 17, 18, 13, 19, 20, 21, 22, 23, 24, 25, 6, 26, 27, 28, 29, 30, 31, 78] (by decide +kernel) (by decide +kernel)
set_option maxRecDepth 20000 in
theorem gX10_dies_X5_isGone_n143 : GoodIn wsX10_dies (wsX5_isGone) := ggX10_dies_X5_isGone
set_option maxRecDepth 20000 in
theorem ggX10_dies_X6_remembers : GoodIn wsX10_dies wsX6_remembers := goodIn_r _ [35, 36, 37, 38, 6, 39, 40, 41, 42, 43, 79, 80, 78] (by decide +kernel) (by decide +kernel)
set_option maxRecDepth 20000 in
theorem gX10_dies_X6_remembers_n180 : GoodIn wsX10_dies (wsX6_remembers) := ggX10_dies_X6_remembers
set_option maxRecDepth 20000 in
theorem ggX10_dies_X5_goneRafts : GoodIn wsX10_dies wsX5_goneRafts := goodIn_r _ [19, 20, 21, 22, 13, 23, 24, 25, 6, 26, 78] (by decide +kernel) (by decide +kernel)
set_option maxRecDepth 20000 in
theorem gX10_dies_X5_goneRafts_n191 : GoodIn wsX10_dies (wsX5_goneRafts) := ggX10_dies_X5_goneRafts
set_option maxRecDepth 20000 in
theorem ggX10_dies_X10_bit : GoodIn wsX10_dies wsX10_bit := goodIn_r _ [31] (by decide +kernel) (by decide +kernel)
set_option maxRecDepth 20000 in
theorem gX10_dies_X10_bit : GoodIn wsX10_dies (va_wsS RX10 195 yX10_bit wsX10_bit) := goodIn_app (goodIn_of _ (by decide +kernel)) ggX10_dies_X10_bit
set_option maxRecDepth 20000 in
theorem ggX10_dies_X5_set : GoodIn wsX10_dies wsX5_set := goodIn_r _ [46, 24, 47, 6, 48, 78] (by decide +kernel) (by decide +kernel)
set_option maxRecDepth 20000 in
theorem gX10_dies_X5_set_n187 : GoodIn wsX10_dies (wsX5_set) := ggX10_dies_X5_set
set_option maxRecDepth 20000 in
theorem ggX10_dies_J6_bitCount_0f7a4 : GoodIn wsX10_dies wsJ6_bitCount_0f7a4 := goodIn_r _ [52, 53, 54, 55] (by decide +kernel) (by decide +kernel)
set_option maxRecDepth 20000 in
theorem gX10_dies_J6_bitCount_0f7a4 : GoodIn wsX10_dies (va_wsS RX10 198 yJ6_bitCount_0f7a4 wsJ6_bitCount_0f7a4) := goodIn_app (goodIn_of _ (by decide +kernel)) ggX10_dies_J6_bitCount_0f7a4
theorem dX10_dies_0 : decode cX10_dies 0 = .ok (.aload_n 0, 1) := by decide +kernel
theorem dX10_dies_1 : decode cX10_dies 1 = .ok (.iload_n 1, 1) := by decide +kernel
theorem dX10_dies_2 : decode cX10_dies 2 = .ok (.invokevirtual 136, 3) := by decide +kernel
theorem dX10_dies_5 : decode cX10_dies 5 = .ok (.ifCond .eq 5, 3) := by decide +kernel
theorem dX10_dies_8 : decode cX10_dies 8 = .ok (.iconst (-1), 1) := by decide +kernel
theorem dX10_dies_9 : decode cX10_dies 9 = .ok (.ireturn, 1) := by decide +kernel
theorem dX10_dies_10 : decode cX10_dies 10 = .ok (.aload_n 0, 1) := by decide +kernel
theorem dX10_dies_11 : decode cX10_dies 11 = .ok (.getfield 22, 3) := by decide +kernel
theorem dX10_dies_14 : decode cX10_dies 14 = .ok (.iload_n 1, 1) := by decide +kernel
theorem dX10_dies_15 : decode cX10_dies 15 = .ok (.invokevirtual 143, 3) := by decide +kernel
theorem dX10_dies_18 : decode cX10_dies 18 = .ok (.ifCond .eq 6, 3) := by decide +kernel
theorem dX10_dies_21 : decode cX10_dies 21 = .ok (.bipush (-2), 2) := by decide +kernel
theorem dX10_dies_23 : decode cX10_dies 23 = .ok (.ireturn, 1) := by decide +kernel
theorem dX10_dies_24 : decode cX10_dies 24 = .ok (.aload_n 0, 1) := by decide +kernel
theorem dX10_dies_25 : decode cX10_dies 25 = .ok (.getfield 29, 3) := by decide +kernel
theorem dX10_dies_28 : decode cX10_dies 28 = .ok (.aload_n 0, 1) := by decide +kernel
theorem dX10_dies_29 : decode cX10_dies 29 = .ok (.getfield 22, 3) := by decide +kernel
theorem dX10_dies_32 : decode cX10_dies 32 = .ok (.invokevirtual 180, 3) := by decide +kernel
theorem dX10_dies_35 : decode cX10_dies 35 = .ok (.aload_n 0, 1) := by decide +kernel
theorem dX10_dies_36 : decode cX10_dies 36 = .ok (.getfield 22, 3) := by decide +kernel
theorem dX10_dies_39 : decode cX10_dies 39 = .ok (.bipush 44, 2) := by decide +kernel
theorem dX10_dies_41 : decode cX10_dies 41 = .ok (.iconst 0, 1) := by decide +kernel
theorem dX10_dies_42 : decode cX10_dies 42 = .ok (.aload_n 0, 1) := by decide +kernel
theorem dX10_dies_43 : decode cX10_dies 43 = .ok (.getfield 22, 3) := by decide +kernel
theorem dX10_dies_46 : decode cX10_dies 46 = .ok (.invokevirtual 191, 3) := by decide +kernel
theorem dX10_dies_49 : decode cX10_dies 49 = .ok (.iload_n 1, 1) := by decide +kernel
theorem dX10_dies_50 : decode cX10_dies 50 = .ok (.invokestatic 195, 3) := by decide +kernel
theorem dX10_dies_53 : decode cX10_dies 53 = .ok (.ior, 1) := by decide +kernel
theorem dX10_dies_54 : decode cX10_dies 54 = .ok (.invokevirtual 187, 3) := by decide +kernel
theorem dX10_dies_57 : decode cX10_dies 57 = .ok (.aload_n 0, 1) := by decide +kernel
theorem dX10_dies_58 : decode cX10_dies 58 = .ok (.getfield 22, 3) := by decide +kernel
theorem dX10_dies_61 : decode cX10_dies 61 = .ok (.invokevirtual 191, 3) := by decide +kernel
theorem dX10_dies_64 : decode cX10_dies 64 = .ok (.invokestatic 198, 3) := by decide +kernel
theorem dX10_dies_67 : decode cX10_dies 67 = .ok (.ireturn, 1) := by decide +kernel
set_option maxRecDepth 20000 in
theorem ggX10_wills_X10_isNoRaft : GoodIn wsX10_wills wsX10_isNoRaft := goodIn_r _ [7, 8, 9, 10, 6, 11, 49, 50, 51, 52, 53, 54, 55, 56, 57, 58, 59, 60, 61, 62, 63, 64, 65, 66, 67, 68, 69, 70] (by decide +kernel) (by decide +kernel)
set_option maxRecDepth 20000 in
theorem gX10_wills_X10_isNoRaft : GoodIn wsX10_wills (wsV RX10 136 RX10 yX10_isNoRaft wsX10_isNoRaft) := goodIn_app (goodIn_of _ (by decide +kernel)) ggX10_wills_X10_isNoRaft
set_option maxRecDepth 20000 in
theorem ggX10_wills_X5_get : GoodIn wsX10_wills wsX5_get := goodIn_r _ [15, 16, 17, 6, 18, 71] (by decide +kernel) (by decide +kernel)
set_option maxRecDepth 20000 in
theorem gX10_wills_X5_get_n139 : GoodIn wsX10_wills (wsX5_get) := ggX10_wills_X5_get
set_option maxRecDepth 20000 in
theorem ggX10_wills_X5_isGone : GoodIn wsX10_wills wsX5_isGone := goodIn_r _ [21, 22, 23, 24, 13, 25, 26, 12, 14, 15, 16, 17, 6, 18, 27, 28, 29, 30, 31, 71] (by decide +kernel) (by decide +kernel)
set_option maxRecDepth 20000 in
theorem gX10_wills_X5_isGone_n143 : GoodIn wsX10_wills (wsX5_isGone) := ggX10_wills_X5_isGone
set_option maxRecDepth 20000 in
theorem ggX10_wills_X6_remembers : GoodIn wsX10_wills wsX6_remembers := goodIn_r _ [35, 36, 37, 38, 6, 39, 40, 41, 42, 43, 72, 73, 71] (by decide +kernel) (by decide +kernel)
set_option maxRecDepth 20000 in
theorem gX10_wills_X6_remembers_n180 : GoodIn wsX10_wills (wsX6_remembers) := ggX10_wills_X6_remembers
set_option maxRecDepth 20000 in
theorem ggX10_wills_X5_set : GoodIn wsX10_wills wsX5_set := goodIn_r _ [46, 16, 47, 6, 48, 71] (by decide +kernel) (by decide +kernel)
set_option maxRecDepth 20000 in
theorem gX10_wills_X5_set_n187 : GoodIn wsX10_wills (wsX5_set) := ggX10_wills_X5_set
theorem dX10_wills_0 : decode cX10_wills 0 = .ok (.aload_n 0, 1) := by decide +kernel
theorem dX10_wills_1 : decode cX10_wills 1 = .ok (.iload_n 1, 1) := by decide +kernel
theorem dX10_wills_2 : decode cX10_wills 2 = .ok (.invokevirtual 136, 3) := by decide +kernel
theorem dX10_wills_5 : decode cX10_wills 5 = .ok (.ifCond .ne 11, 3) := by decide +kernel
theorem dX10_wills_8 : decode cX10_wills 8 = .ok (.aload_n 0, 1) := by decide +kernel
theorem dX10_wills_9 : decode cX10_wills 9 = .ok (.iload_n 2, 1) := by decide +kernel
theorem dX10_wills_10 : decode cX10_wills 10 = .ok (.invokevirtual 136, 3) := by decide +kernel
theorem dX10_wills_13 : decode cX10_wills 13 = .ok (.ifCond .eq 5, 3) := by decide +kernel
theorem dX10_wills_16 : decode cX10_wills 16 = .ok (.iconst (-1), 1) := by decide +kernel
theorem dX10_wills_17 : decode cX10_wills 17 = .ok (.ireturn, 1) := by decide +kernel
theorem dX10_wills_18 : decode cX10_wills 18 = .ok (.aload_n 0, 1) := by decide +kernel
theorem dX10_wills_19 : decode cX10_wills 19 = .ok (.getfield 22, 3) := by decide +kernel
theorem dX10_wills_22 : decode cX10_wills 22 = .ok (.bipush 32, 2) := by decide +kernel
theorem dX10_wills_24 : decode cX10_wills 24 = .ok (.iload_n 1, 1) := by decide +kernel
theorem dX10_wills_25 : decode cX10_wills 25 = .ok (.invokevirtual 139, 3) := by decide +kernel
theorem dX10_wills_28 : decode cX10_wills 28 = .ok (.istore_n 3, 1) := by decide +kernel
theorem dX10_wills_29 : decode cX10_wills 29 = .ok (.aload_n 0, 1) := by decide +kernel
theorem dX10_wills_30 : decode cX10_wills 30 = .ok (.getfield 22, 3) := by decide +kernel
theorem dX10_wills_33 : decode cX10_wills 33 = .ok (.iload_n 1, 1) := by decide +kernel
theorem dX10_wills_34 : decode cX10_wills 34 = .ok (.invokevirtual 143, 3) := by decide +kernel
theorem dX10_wills_37 : decode cX10_wills 37 = .ok (.ifCond .ne 8, 3) := by decide +kernel
theorem dX10_wills_40 : decode cX10_wills 40 = .ok (.iload_n 3, 1) := by decide +kernel
theorem dX10_wills_41 : decode cX10_wills 41 = .ok (.iload_n 2, 1) := by decide +kernel
theorem dX10_wills_42 : decode cX10_wills 42 = .ok (.if_icmp .ne 6, 3) := by decide +kernel
theorem dX10_wills_45 : decode cX10_wills 45 = .ok (.bipush (-2), 2) := by decide +kernel
theorem dX10_wills_47 : decode cX10_wills 47 = .ok (.ireturn, 1) := by decide +kernel
theorem dX10_wills_48 : decode cX10_wills 48 = .ok (.aload_n 0, 1) := by decide +kernel
theorem dX10_wills_49 : decode cX10_wills 49 = .ok (.getfield 29, 3) := by decide +kernel
theorem dX10_wills_52 : decode cX10_wills 52 = .ok (.aload_n 0, 1) := by decide +kernel
theorem dX10_wills_53 : decode cX10_wills 53 = .ok (.getfield 22, 3) := by decide +kernel
theorem dX10_wills_56 : decode cX10_wills 56 = .ok (.invokevirtual 180, 3) := by decide +kernel
theorem dX10_wills_59 : decode cX10_wills 59 = .ok (.aload_n 0, 1) := by decide +kernel
theorem dX10_wills_60 : decode cX10_wills 60 = .ok (.getfield 22, 3) := by decide +kernel
theorem dX10_wills_63 : decode cX10_wills 63 = .ok (.bipush 32, 2) := by decide +kernel
theorem dX10_wills_65 : decode cX10_wills 65 = .ok (.iload_n 1, 1) := by decide +kernel
theorem dX10_wills_66 : decode cX10_wills 66 = .ok (.iload_n 2, 1) := by decide +kernel
theorem dX10_wills_67 : decode cX10_wills 67 = .ok (.invokevirtual 187, 3) := by decide +kernel
theorem dX10_wills_70 : decode cX10_wills 70 = .ok (.iload_n 3, 1) := by decide +kernel
theorem dX10_wills_71 : decode cX10_wills 71 = .ok (.ireturn, 1) := by decide +kernel
set_option maxRecDepth 20000 in
theorem ggX10_year_X6_remembers : GoodIn wsX10_year wsX6_remembers := goodIn_r _ [11, 12, 13, 14, 15, 16, 17, 18, 19, 20, 59, 60, 61] (by decide +kernel) (by decide +kernel)
set_option maxRecDepth 20000 in
theorem gX10_year_X6_remembers_n180 : GoodIn wsX10_year (wsX6_remembers) := ggX10_year_X6_remembers
set_option maxRecDepth 20000 in
theorem ggX10_year_X5_lies : GoodIn wsX10_year wsX5_lies := goodIn_r _ [24, 25, 26, 27, 22, 28, 29, 30, 15, 31, 61] (by decide +kernel) (by decide +kernel)
set_option maxRecDepth 20000 in
theorem gX10_year_X5_lies_n168 : GoodIn wsX10_year (wsX5_lies) := ggX10_year_X5_lies
set_option maxRecDepth 20000 in
theorem ggX10_year_X5_get : GoodIn wsX10_year wsX5_get := goodIn_r _ [28, 29, 30, 15, 31, 61] (by decide +kernel) (by decide +kernel)
set_option maxRecDepth 20000 in
theorem gX10_year_X5_get_n139 : GoodIn wsX10_year (wsX5_get) := ggX10_year_X5_get
set_option maxRecDepth 20000 in
theorem ggX10_year_X5_set : GoodIn wsX10_year wsX5_set := goodIn_r _ [34, 29, 35, 15, 36, 61] (by decide +kernel) (by decide +kernel)
set_option maxRecDepth 20000 in
theorem gX10_year_X5_set_n187 : GoodIn wsX10_year (wsX5_set) := ggX10_year_X5_set
theorem dX10_year_0 : decode cX10_year 0 = .ok (.aload_n 0, 1) := by decide +kernel
theorem dX10_year_1 : decode cX10_year 1 = .ok (.getfield 29, 3) := by decide +kernel
theorem dX10_year_4 : decode cX10_year 4 = .ok (.aload_n 0, 1) := by decide +kernel
theorem dX10_year_5 : decode cX10_year 5 = .ok (.getfield 22, 3) := by decide +kernel
theorem dX10_year_8 : decode cX10_year 8 = .ok (.invokevirtual 180, 3) := by decide +kernel
theorem dX10_year_11 : decode cX10_year 11 = .ok (.iconst 0, 1) := by decide +kernel
theorem dX10_year_12 : decode cX10_year 12 = .ok (.istore_n 1, 1) := by decide +kernel
theorem dX10_year_13 : decode cX10_year 13 = .ok (.iconst 0, 1) := by decide +kernel
theorem dX10_year_14 : decode cX10_year 14 = .ok (.istore_n 2, 1) := by decide +kernel
theorem dX10_year_15 : decode cX10_year 15 = .ok (.iload_n 2, 1) := by decide +kernel
theorem dX10_year_16 : decode cX10_year 16 = .ok (.aload_n 0, 1) := by decide +kernel
theorem dX10_year_17 : decode cX10_year 17 = .ok (.getfield 10, 3) := by decide +kernel
theorem dX10_year_20 : decode cX10_year 20 = .ok (.getfield 203, 3) := by decide +kernel
theorem dX10_year_23 : decode cX10_year 23 = .ok (.if_icmp .ge 53, 3) := by decide +kernel
theorem dX10_year_26 : decode cX10_year 26 = .ok (.aload_n 0, 1) := by decide +kernel
theorem dX10_year_27 : decode cX10_year 27 = .ok (.getfield 22, 3) := by decide +kernel
theorem dX10_year_30 : decode cX10_year 30 = .ok (.iload_n 2, 1) := by decide +kernel
theorem dX10_year_31 : decode cX10_year 31 = .ok (.invokevirtual 168, 3) := by decide +kernel
theorem dX10_year_34 : decode cX10_year 34 = .ok (.ifCond .eq 36, 3) := by decide +kernel
theorem dX10_year_37 : decode cX10_year 37 = .ok (.aload_n 0, 1) := by decide +kernel
theorem dX10_year_38 : decode cX10_year 38 = .ok (.getfield 22, 3) := by decide +kernel
theorem dX10_year_41 : decode cX10_year 41 = .ok (.bipush 16, 2) := by decide +kernel
theorem dX10_year_43 : decode cX10_year 43 = .ok (.iload_n 2, 1) := by decide +kernel
theorem dX10_year_44 : decode cX10_year 44 = .ok (.invokevirtual 139, 3) := by decide +kernel
theorem dX10_year_47 : decode cX10_year 47 = .ok (.iconst 1, 1) := by decide +kernel
theorem dX10_year_48 : decode cX10_year 48 = .ok (.iadd, 1) := by decide +kernel
theorem dX10_year_49 : decode cX10_year 49 = .ok (.bipush 99, 2) := by decide +kernel
theorem dX10_year_51 : decode cX10_year 51 = .ok (.invokestatic 206, 3) := by decide +kernel
theorem dX10_year_54 : decode cX10_year 54 = .ok (.istore_n 3, 1) := by decide +kernel
theorem dX10_year_55 : decode cX10_year 55 = .ok (.aload_n 0, 1) := by decide +kernel
theorem dX10_year_56 : decode cX10_year 56 = .ok (.getfield 22, 3) := by decide +kernel
theorem dX10_year_59 : decode cX10_year 59 = .ok (.bipush 16, 2) := by decide +kernel
theorem dX10_year_61 : decode cX10_year 61 = .ok (.iload_n 2, 1) := by decide +kernel
theorem dX10_year_62 : decode cX10_year 62 = .ok (.iload_n 3, 1) := by decide +kernel
theorem dX10_year_63 : decode cX10_year 63 = .ok (.invokevirtual 187, 3) := by decide +kernel
theorem dX10_year_66 : decode cX10_year 66 = .ok (.iload_n 1, 1) := by decide +kernel
theorem dX10_year_67 : decode cX10_year 67 = .ok (.iload_n 3, 1) := by decide +kernel
theorem dX10_year_68 : decode cX10_year 68 = .ok (.iadd, 1) := by decide +kernel
theorem dX10_year_69 : decode cX10_year 69 = .ok (.istore_n 1, 1) := by decide +kernel
theorem dX10_year_70 : decode cX10_year 70 = .ok (.iinc 2 1, 3) := by decide +kernel
theorem dX10_year_73 : decode cX10_year 73 = .ok (.goto (-58), 3) := by decide +kernel
theorem dX10_year_76 : decode cX10_year 76 = .ok (.iload_n 1, 1) := by decide +kernel
theorem dX10_year_77 : decode cX10_year 77 = .ok (.ireturn, 1) := by decide +kernel
set_option maxRecDepth 20000 in
theorem ggX10_hauls_X10_isNoRaft : GoodIn wsX10_hauls wsX10_isNoRaft := goodIn_r _ [12, 13, 14, 15, 11, 16, 79, 80, 81, 82, 83, 84, 85, 86, 87, 88, 89, 90, 91, 92, 93, 94, 95, 96, 97, 98, 99, 100] (by decide +kernel) (by decide +kernel)
set_option maxRecDepth 20000 in
theorem gX10_hauls_X10_isNoRaft : GoodIn wsX10_hauls (wsV RX10 136 RX10 yX10_isNoRaft wsX10_isNoRaft) := goodIn_app (goodIn_of _ (by decide +kernel)) ggX10_hauls_X10_isNoRaft
set_option maxRecDepth 20000 in
theorem ggX10_hauls_X10_isNoAnchor : GoodIn wsX10_hauls wsX10_isNoAnchor := goodIn_r _ [20, 13, 14, 15, 11, 16, 79, 80, 81, 82, 83, 84, 85, 86, 87, 88, 89, 90, 91, 92, 93, 94, 95, 96, 97, 98, 99, 100] (by decide +kernel) (by decide +kernel)
set_option maxRecDepth 20000 in
theorem gX10_hauls_X10_isNoAnchor : GoodIn wsX10_hauls (wsV RX10 156 RX10 yX10_isNoAnchor wsX10_isNoAnchor) := goodIn_app (goodIn_of _ (by decide +kernel)) ggX10_hauls_X10_isNoAnchor
set_option maxRecDepth 20000 in
theorem ggX10_hauls_X2_mayHaul : GoodIn wsX10_hauls wsX2_mayHaul := goodIn_r _ [24, 25, 26, 27, 28, 29, 30, 31, 32, 33, 34, 35, 36, 11, 37, 38, 39, 40, 22, 41, 42, 43, 44, 45, 46, 47, 48, 49, 50, 51, 52, 53, 54, 55, 101, 102, 91, 92, 93, 94, 95, 96, 97, 98, 99, 100, 103] (by decide +kernel) (by decide +kernel)
set_option maxRecDepth 20000 in
theorem gX10_hauls_X2_mayHaul_n211 : GoodIn wsX10_hauls (wsX2_mayHaul) := ggX10_hauls_X2_mayHaul
set_option maxRecDepth 20000 in
theorem ggX10_hauls_X6_remembers : GoodIn wsX10_hauls wsX6_remembers := goodIn_r _ [59, 60, 61, 62, 11, 63, 64, 65, 66, 67, 104, 105, 103] (by decide +kernel) (by decide +kernel)
set_option maxRecDepth 20000 in
theorem gX10_hauls_X6_remembers_n180 : GoodIn wsX10_hauls (wsX6_remembers) := ggX10_hauls_X6_remembers
set_option maxRecDepth 20000 in
theorem ggX10_hauls_X5_get : GoodIn wsX10_hauls wsX5_get := goodIn_r _ [34, 35, 36, 11, 37, 103] (by decide +kernel) (by decide +kernel)
set_option maxRecDepth 20000 in
theorem gX10_hauls_X5_get_n139 : GoodIn wsX10_hauls (wsX5_get) := ggX10_hauls_X5_get
set_option maxRecDepth 20000 in
theorem ggX10_hauls_X2_valueOf : GoodIn wsX10_hauls wsX2_valueOf := goodIn_r _ [70, 26, 25, 71, 72, 6, 73, 36, 11, 37, 32, 28, 33, 34, 35, 101, 102, 91, 92, 93, 94, 95, 96, 97, 98, 99, 100, 103] (by decide +kernel) (by decide +kernel)
set_option maxRecDepth 20000 in
theorem gX10_hauls_X2_valueOf_n215 : GoodIn wsX10_hauls (wsX2_valueOf) := ggX10_hauls_X2_valueOf
set_option maxRecDepth 20000 in
theorem ggX10_hauls_X5_set : GoodIn wsX10_hauls wsX5_set := goodIn_r _ [76, 35, 77, 11, 78, 103] (by decide +kernel) (by decide +kernel)
set_option maxRecDepth 20000 in
theorem gX10_hauls_X5_set_n187 : GoodIn wsX10_hauls (wsX5_set) := ggX10_hauls_X5_set
theorem dX10_hauls_0 : decode cX10_hauls 0 = .ok (.aload_n 0, 1) := by decide +kernel
theorem dX10_hauls_1 : decode cX10_hauls 1 = .ok (.iload_n 1, 1) := by decide +kernel
theorem dX10_hauls_2 : decode cX10_hauls 2 = .ok (.invokevirtual 136, 3) := by decide +kernel
theorem dX10_hauls_5 : decode cX10_hauls 5 = .ok (.ifCond .ne 11, 3) := by decide +kernel
theorem dX10_hauls_8 : decode cX10_hauls 8 = .ok (.aload_n 0, 1) := by decide +kernel
theorem dX10_hauls_9 : decode cX10_hauls 9 = .ok (.iload_n 2, 1) := by decide +kernel
theorem dX10_hauls_10 : decode cX10_hauls 10 = .ok (.invokevirtual 156, 3) := by decide +kernel
theorem dX10_hauls_13 : decode cX10_hauls 13 = .ok (.ifCond .eq 5, 3) := by decide +kernel
theorem dX10_hauls_16 : decode cX10_hauls 16 = .ok (.iconst (-1), 1) := by decide +kernel
theorem dX10_hauls_17 : decode cX10_hauls 17 = .ok (.ireturn, 1) := by decide +kernel
theorem dX10_hauls_18 : decode cX10_hauls 18 = .ok (.aload_n 0, 1) := by decide +kernel
theorem dX10_hauls_19 : decode cX10_hauls 19 = .ok (.getfield 69, 3) := by decide +kernel
theorem dX10_hauls_22 : decode cX10_hauls 22 = .ok (.iload_n 1, 1) := by decide +kernel
theorem dX10_hauls_23 : decode cX10_hauls 23 = .ok (.iload_n 2, 1) := by decide +kernel
theorem dX10_hauls_24 : decode cX10_hauls 24 = .ok (.invokevirtual 211, 3) := by decide +kernel
theorem dX10_hauls_27 : decode cX10_hauls 27 = .ok (.ifCond .ne 6, 3) := by decide +kernel
theorem dX10_hauls_30 : decode cX10_hauls 30 = .ok (.bipush (-2), 2) := by decide +kernel
theorem dX10_hauls_32 : decode cX10_hauls 32 = .ok (.ireturn, 1) := by decide +kernel
theorem dX10_hauls_33 : decode cX10_hauls 33 = .ok (.aload_n 0, 1) := by decide +kernel
theorem dX10_hauls_34 : decode cX10_hauls 34 = .ok (.getfield 29, 3) := by decide +kernel
theorem dX10_hauls_37 : decode cX10_hauls 37 = .ok (.aload_n 0, 1) := by decide +kernel
theorem dX10_hauls_38 : decode cX10_hauls 38 = .ok (.getfield 22, 3) := by decide +kernel
theorem dX10_hauls_41 : decode cX10_hauls 41 = .ok (.invokevirtual 180, 3) := by decide +kernel
theorem dX10_hauls_44 : decode cX10_hauls 44 = .ok (.aload_n 0, 1) := by decide +kernel
theorem dX10_hauls_45 : decode cX10_hauls 45 = .ok (.getfield 22, 3) := by decide +kernel
theorem dX10_hauls_48 : decode cX10_hauls 48 = .ok (.bipush 38, 2) := by decide +kernel
theorem dX10_hauls_50 : decode cX10_hauls 50 = .ok (.iload_n 1, 1) := by decide +kernel
theorem dX10_hauls_51 : decode cX10_hauls 51 = .ok (.invokevirtual 139, 3) := by decide +kernel
theorem dX10_hauls_54 : decode cX10_hauls 54 = .ok (.aload_n 0, 1) := by decide +kernel
theorem dX10_hauls_55 : decode cX10_hauls 55 = .ok (.getfield 69, 3) := by decide +kernel
theorem dX10_hauls_58 : decode cX10_hauls 58 = .ok (.iload_n 2, 1) := by decide +kernel
theorem dX10_hauls_59 : decode cX10_hauls 59 = .ok (.invokevirtual 215, 3) := by decide +kernel
theorem dX10_hauls_62 : decode cX10_hauls 62 = .ok (.iadd, 1) := by decide +kernel
theorem dX10_hauls_63 : decode cX10_hauls 63 = .ok (.sipush 9999, 3) := by decide +kernel
theorem dX10_hauls_66 : decode cX10_hauls 66 = .ok (.invokestatic 206, 3) := by decide +kernel
theorem dX10_hauls_69 : decode cX10_hauls 69 = .ok (.istore_n 3, 1) := by decide +kernel
theorem dX10_hauls_70 : decode cX10_hauls 70 = .ok (.aload_n 0, 1) := by decide +kernel
theorem dX10_hauls_71 : decode cX10_hauls 71 = .ok (.getfield 22, 3) := by decide +kernel
theorem dX10_hauls_74 : decode cX10_hauls 74 = .ok (.bipush 24, 2) := by decide +kernel
theorem dX10_hauls_76 : decode cX10_hauls 76 = .ok (.iload_n 2, 1) := by decide +kernel
theorem dX10_hauls_77 : decode cX10_hauls 77 = .ok (.iconst 1, 1) := by decide +kernel
theorem dX10_hauls_78 : decode cX10_hauls 78 = .ok (.invokevirtual 187, 3) := by decide +kernel
theorem dX10_hauls_81 : decode cX10_hauls 81 = .ok (.aload_n 0, 1) := by decide +kernel
theorem dX10_hauls_82 : decode cX10_hauls 82 = .ok (.getfield 22, 3) := by decide +kernel
theorem dX10_hauls_85 : decode cX10_hauls 85 = .ok (.bipush 38, 2) := by decide +kernel
theorem dX10_hauls_87 : decode cX10_hauls 87 = .ok (.iload_n 1, 1) := by decide +kernel
theorem dX10_hauls_88 : decode cX10_hauls 88 = .ok (.iload_n 3, 1) := by decide +kernel
theorem dX10_hauls_89 : decode cX10_hauls 89 = .ok (.invokevirtual 187, 3) := by decide +kernel
theorem dX10_hauls_92 : decode cX10_hauls 92 = .ok (.iload_n 3, 1) := by decide +kernel
theorem dX10_hauls_93 : decode cX10_hauls 93 = .ok (.ireturn, 1) := by decide +kernel
set_option maxRecDepth 20000 in
theorem ggX10_undo_X6_bringsBack : GoodIn wsX10_undo wsX6_bringsBack := goodIn_r _ [6, 7, 8, 9, 10, 11, 12, 13, 14, 15, 28, 29, 30] (by decide +kernel) (by decide +kernel)
set_option maxRecDepth 20000 in
theorem gX10_undo_X6_bringsBack_n218 : GoodIn wsX10_undo (wsX6_bringsBack) := ggX10_undo_X6_bringsBack
theorem dX10_undo_0 : decode cX10_undo 0 = .ok (.aload_n 0, 1) := by decide +kernel
theorem dX10_undo_1 : decode cX10_undo 1 = .ok (.getfield 29, 3) := by decide +kernel
theorem dX10_undo_4 : decode cX10_undo 4 = .ok (.aload_n 0, 1) := by decide +kernel
theorem dX10_undo_5 : decode cX10_undo 5 = .ok (.getfield 22, 3) := by decide +kernel
theorem dX10_undo_8 : decode cX10_undo 8 = .ok (.invokevirtual 218, 3) := by decide +kernel
theorem dX10_undo_11 : decode cX10_undo 11 = .ok (.ifCond .eq 13, 3) := by decide +kernel
theorem dX10_undo_14 : decode cX10_undo 14 = .ok (.aload_n 0, 1) := by decide +kernel
theorem dX10_undo_15 : decode cX10_undo 15 = .ok (.getfield 29, 3) := by decide +kernel
theorem dX10_undo_18 : decode cX10_undo 18 = .ok (.getfield 113, 3) := by decide +kernel
theorem dX10_undo_21 : decode cX10_undo 21 = .ok (.goto 5, 3) := by decide +kernel
theorem dX10_undo_24 : decode cX10_undo 24 = .ok (.bipush (-2), 2) := by decide +kernel
theorem dX10_undo_26 : decode cX10_undo 26 = .ok (.ireturn, 1) := by decide +kernel
set_option maxRecDepth 20000 in
theorem ggX10_now_X10_isOutside : GoodIn wsX10_now wsX10_isOutside := goodIn_r _ [7] (by decide +kernel) (by decide +kernel)
set_option maxRecDepth 20000 in
theorem gX10_now_X10_isOutside : GoodIn wsX10_now (va_wsS RX10 87 yX10_isOutside wsX10_isOutside) := goodIn_app (goodIn_of _ (by decide +kernel)) ggX10_now_X10_isOutside
set_option maxRecDepth 20000 in
theorem ggX10_now_X5_goneRafts : GoodIn wsX10_now wsX5_goneRafts := goodIn_r _ [11, 12, 13, 14, 9, 15, 16, 17, 6, 18, 43] (by decide +kernel) (by decide +kernel)
set_option maxRecDepth 20000 in
theorem gX10_now_X5_goneRafts_n191 : GoodIn wsX10_now (wsX5_goneRafts) := ggX10_now_X5_goneRafts
set_option maxRecDepth 20000 in
theorem ggX10_now_X2_wealthOfAll : GoodIn wsX10_now wsX2_wealthOfAll := goodIn_r _ [22, 23, 24, 13, 9, 14, 15, 16, 17, 6, 18, 44, 45, 46, 47, 48, 49, 50, 51, 52, 53, 54, 55, 43] (by decide +kernel) (by decide +kernel)
set_option maxRecDepth 20000 in
theorem gX10_now_X2_wealthOfAll_n222 : GoodIn wsX10_now (wsX2_wealthOfAll) := ggX10_now_X2_wealthOfAll
set_option maxRecDepth 20000 in
theorem ggX10_now_X10_thoseThatAre : GoodIn wsX10_now wsX10_thoseThatAre := goodIn_r _ [27, 13, 9, 14, 15, 16, 17, 6, 18, 28, 29, 30, 46, 47, 48, 49, 50, 51, 52, 53, 54, 55, 43] (by decide +kernel) (by decide +kernel)
set_option maxRecDepth 20000 in
theorem gX10_now_X10_thoseThatAre : GoodIn wsX10_now (va_wsS RX10 225 yX10_thoseThatAre wsX10_thoseThatAre) := goodIn_app (goodIn_of _ (by decide +kernel)) ggX10_now_X10_thoseThatAre
theorem dX10_now_0 : decode cX10_now 0 = .ok (.iload_n 1, 1) := by decide +kernel
theorem dX10_now_1 : decode cX10_now 1 = .ok (.iconst 0, 1) := by decide +kernel
theorem dX10_now_2 : decode cX10_now 2 = .ok (.iconst 4, 1) := by decide +kernel
theorem dX10_now_3 : decode cX10_now 3 = .ok (.invokestatic 87, 3) := by decide +kernel
theorem dX10_now_6 : decode cX10_now 6 = .ok (.ifCond .eq 5, 3) := by decide +kernel
theorem dX10_now_9 : decode cX10_now 9 = .ok (.iconst (-1), 1) := by decide +kernel
theorem dX10_now_10 : decode cX10_now 10 = .ok (.ireturn, 1) := by decide +kernel
theorem dX10_now_11 : decode cX10_now 11 = .ok (.iload_n 1, 1) := by decide +kernel
theorem dX10_now_12 : decode cX10_now 12 = .ok (.lookupswitch 44 #[(3, 28), (4, 36)], 28) := by decide +kernel
theorem dX10_now_40 : decode cX10_now 40 = .ok (.aload_n 0, 1) := by decide +kernel
theorem dX10_now_41 : decode cX10_now 41 = .ok (.getfield 22, 3) := by decide +kernel
theorem dX10_now_44 : decode cX10_now 44 = .ok (.invokevirtual 191, 3) := by decide +kernel
theorem dX10_now_47 : decode cX10_now 47 = .ok (.ireturn, 1) := by decide +kernel
theorem dX10_now_48 : decode cX10_now 48 = .ok (.aload_n 0, 1) := by decide +kernel
theorem dX10_now_49 : decode cX10_now 49 = .ok (.getfield 69, 3) := by decide +kernel
theorem dX10_now_52 : decode cX10_now 52 = .ok (.invokevirtual 222, 3) := by decide +kernel
theorem dX10_now_55 : decode cX10_now 55 = .ok (.ireturn, 1) := by decide +kernel
theorem dX10_now_56 : decode cX10_now 56 = .ok (.aload_n 0, 1) := by decide +kernel
theorem dX10_now_57 : decode cX10_now 57 = .ok (.getfield 10, 3) := by decide +kernel
theorem dX10_now_60 : decode cX10_now 60 = .ok (.aload_n 0, 1) := by decide +kernel
theorem dX10_now_61 : decode cX10_now 61 = .ok (.getfield 22, 3) := by decide +kernel
theorem dX10_now_64 : decode cX10_now 64 = .ok (.iload_n 1, 1) := by decide +kernel
theorem dX10_now_65 : decode cX10_now 65 = .ok (.invokestatic 225, 3) := by decide +kernel
theorem dX10_now_68 : decode cX10_now 68 = .ok (.ireturn, 1) := by decide +kernel
set_option maxRecDepth 20000 in
theorem ggX10_needs_X10_isNoAnchor : GoodIn wsX10_needs wsX10_isNoAnchor := goodIn_r _ [7, 8, 9, 10, 6, 11, 41, 42, 43, 44, 45, 46, 47, 48, 49, 50, 51, 52, 53, 54, 55, 56, 57, 58, 59, 60, 61, 62] (by decide +kernel) (by decide +kernel)
set_option maxRecDepth 20000 in
theorem gX10_needs_X10_isNoAnchor : GoodIn wsX10_needs (wsV RX10 156 RX10 yX10_isNoAnchor wsX10_isNoAnchor) := goodIn_app (goodIn_of _ (by decide +kernel)) ggX10_needs_X10_isNoAnchor
set_option maxRecDepth 20000 in
theorem ggX10_needs_X10_isNoForce : GoodIn wsX10_needs wsX10_isNoForce := goodIn_r _ [14, 9, 10, 6, 11] (by decide +kernel) (by decide +kernel)
set_option maxRecDepth 20000 in
theorem gX10_needs_X10_isNoForce : GoodIn wsX10_needs (va_wsS RX10 177 yX10_isNoForce wsX10_isNoForce) := goodIn_app (goodIn_of _ (by decide +kernel)) ggX10_needs_X10_isNoForce
set_option maxRecDepth 20000 in
theorem ggX10_needs_X5_lies : GoodIn wsX10_needs wsX5_lies := goodIn_r _ [18, 19, 20, 21, 16, 22, 23, 24, 6, 25, 63] (by decide +kernel) (by decide +kernel)
set_option maxRecDepth 20000 in
theorem gX10_needs_X5_lies_n168 : GoodIn wsX10_needs (wsX5_lies) := ggX10_needs_X5_lies
set_option maxRecDepth 20000 in
theorem ggX10_needs_X8_fewestLinks : GoodIn wsX10_needs wsX8_fewestLinks := goodIn_r _ [29, 30, 31, 20, 16, 21, 22, 23, 24, 6, 25, 32, 33, 34, 35, 36, 37, 38, 39, 40, 64, 65, 66, 67, 63, 53, 54, 55, 56, 57, 58, 59, 60, 61, 62] (by decide +kernel) (by decide +kernel)
set_option maxRecDepth 20000 in
theorem gX10_needs_X8_fewestLinks_n228 : GoodIn wsX10_needs (wsX8_fewestLinks) := ggX10_needs_X8_fewestLinks
theorem dX10_needs_0 : decode cX10_needs 0 = .ok (.aload_n 0, 1) := by decide +kernel
theorem dX10_needs_1 : decode cX10_needs 1 = .ok (.iload_n 1, 1) := by decide +kernel
theorem dX10_needs_2 : decode cX10_needs 2 = .ok (.invokevirtual 156, 3) := by decide +kernel
theorem dX10_needs_5 : decode cX10_needs 5 = .ok (.ifCond .ne 10, 3) := by decide +kernel
theorem dX10_needs_8 : decode cX10_needs 8 = .ok (.iload_n 2, 1) := by decide +kernel
theorem dX10_needs_9 : decode cX10_needs 9 = .ok (.invokestatic 177, 3) := by decide +kernel
theorem dX10_needs_12 : decode cX10_needs 12 = .ok (.ifCond .eq 5, 3) := by decide +kernel
theorem dX10_needs_15 : decode cX10_needs 15 = .ok (.iconst (-1), 1) := by decide +kernel
theorem dX10_needs_16 : decode cX10_needs 16 = .ok (.ireturn, 1) := by decide +kernel
theorem dX10_needs_17 : decode cX10_needs 17 = .ok (.aload_n 0, 1) := by decide +kernel
theorem dX10_needs_18 : decode cX10_needs 18 = .ok (.getfield 22, 3) := by decide +kernel
theorem dX10_needs_21 : decode cX10_needs 21 = .ok (.iload_n 1, 1) := by decide +kernel
theorem dX10_needs_22 : decode cX10_needs 22 = .ok (.invokevirtual 168, 3) := by decide +kernel
theorem dX10_needs_25 : decode cX10_needs 25 = .ok (.ifCond .eq 15, 3) := by decide +kernel
theorem dX10_needs_28 : decode cX10_needs 28 = .ok (.aload_n 0, 1) := by decide +kernel
theorem dX10_needs_29 : decode cX10_needs 29 = .ok (.getfield 55, 3) := by decide +kernel
theorem dX10_needs_32 : decode cX10_needs 32 = .ok (.iload_n 1, 1) := by decide +kernel
theorem dX10_needs_33 : decode cX10_needs 33 = .ok (.iload_n 2, 1) := by decide +kernel
theorem dX10_needs_34 : decode cX10_needs 34 = .ok (.invokevirtual 228, 3) := by decide +kernel
theorem dX10_needs_37 : decode cX10_needs 37 = .ok (.goto 5, 3) := by decide +kernel
theorem dX10_needs_40 : decode cX10_needs 40 = .ok (.bipush (-2), 2) := by decide +kernel
theorem dX10_needs_42 : decode cX10_needs 42 = .ok (.ireturn, 1) := by decide +kernel
set_option maxRecDepth 20000 in
theorem ggX10_after_X10_isNoAnchor : GoodIn wsX10_after wsX10_isNoAnchor := goodIn_r _ [6, 7, 8, 9, 5, 10, 70, 71, 72, 73, 74, 75, 76, 77, 78, 79, 80, 81, 82, 83, 84, 85, 86, 87, 88, 89, 90, 91] (by decide +kernel) (by decide +kernel)
set_option maxRecDepth 20000 in
theorem gX10_after_X10_isNoAnchor : GoodIn wsX10_after (wsV RX10 156 RX10 yX10_isNoAnchor wsX10_isNoAnchor) := goodIn_app (goodIn_of _ (by decide +kernel)) ggX10_after_X10_isNoAnchor
set_option maxRecDepth 20000 in
theorem ggX10_after_X10_isNoForce : GoodIn wsX10_after wsX10_isNoForce := goodIn_r _ [13, 8, 9, 5, 10] (by decide +kernel) (by decide +kernel)
set_option maxRecDepth 20000 in
theorem gX10_after_X10_isNoForce : GoodIn wsX10_after (va_wsS RX10 177 yX10_isNoForce wsX10_isNoForce) := goodIn_app (goodIn_of _ (by decide +kernel)) ggX10_after_X10_isNoForce
set_option maxRecDepth 20000 in
theorem ggX10_after_X10_isOutside : GoodIn wsX10_after wsX10_isOutside := goodIn_r _ [10] (by decide +kernel) (by decide +kernel)
set_option maxRecDepth 20000 in
theorem gX10_after_X10_isOutside : GoodIn wsX10_after (va_wsS RX10 87 yX10_isOutside wsX10_isOutside) := goodIn_app (goodIn_of _ (by decide +kernel)) ggX10_after_X10_isOutside
set_option maxRecDepth 20000 in
theorem ggX10_after_X8_cellBehind : GoodIn wsX10_after wsX8_cellBehind := goodIn_r _ [17, 18, 19, 20, 21, 22, 23, 24, 25, 5, 26, 27, 28, 29, 30, 31, 32, 33, 15, 34, 35, 36, 37, 38, 39, 40, 41, 42, 43, 44, 45, 46, 47, 48, 49, 50, 51, 52, 53, 54, 55, 56, 57, 58, 59, 60, 61, 62, 63, 64, 65, 66, 9, 10, 67, 68, 69, 92, 93, 94, 95, 96, 82, 83, 84, 85, 86, 87, 88, 89, 90, 91] (by decide +kernel) (by decide +kernel)
set_option maxRecDepth 20000 in
theorem gX10_after_X8_cellBehind_n231 : GoodIn wsX10_after (wsX8_cellBehind) := ggX10_after_X8_cellBehind
theorem dX10_after_0 : decode cX10_after 0 = .ok (.aload_n 0, 1) := by decide +kernel
theorem dX10_after_1 : decode cX10_after 1 = .ok (.iload_n 1, 1) := by decide +kernel
theorem dX10_after_2 : decode cX10_after 2 = .ok (.invokevirtual 156, 3) := by decide +kernel
theorem dX10_after_5 : decode cX10_after 5 = .ok (.ifCond .ne 19, 3) := by decide +kernel
theorem dX10_after_8 : decode cX10_after 8 = .ok (.iload_n 2, 1) := by decide +kernel
theorem dX10_after_9 : decode cX10_after 9 = .ok (.invokestatic 177, 3) := by decide +kernel
theorem dX10_after_12 : decode cX10_after 12 = .ok (.ifCond .ne 12, 3) := by decide +kernel
theorem dX10_after_15 : decode cX10_after 15 = .ok (.iload_n 3, 1) := by decide +kernel
theorem dX10_after_16 : decode cX10_after 16 = .ok (.iconst 0, 1) := by decide +kernel
theorem dX10_after_17 : decode cX10_after 17 = .ok (.iconst 1, 1) := by decide +kernel
theorem dX10_after_18 : decode cX10_after 18 = .ok (.invokestatic 87, 3) := by decide +kernel
theorem dX10_after_21 : decode cX10_after 21 = .ok (.ifCond .eq 5, 3) := by decide +kernel
theorem dX10_after_24 : decode cX10_after 24 = .ok (.iconst (-1), 1) := by decide +kernel
theorem dX10_after_25 : decode cX10_after 25 = .ok (.ireturn, 1) := by decide +kernel
theorem dX10_after_26 : decode cX10_after 26 = .ok (.aload_n 0, 1) := by decide +kernel
theorem dX10_after_27 : decode cX10_after 27 = .ok (.getfield 55, 3) := by decide +kernel
theorem dX10_after_30 : decode cX10_after 30 = .ok (.iload_n 1, 1) := by decide +kernel
theorem dX10_after_31 : decode cX10_after 31 = .ok (.iload_n 2, 1) := by decide +kernel
theorem dX10_after_32 : decode cX10_after 32 = .ok (.iload_n 3, 1) := by decide +kernel
theorem dX10_after_33 : decode cX10_after 33 = .ok (.invokevirtual 231, 3) := by decide +kernel
theorem dX10_after_36 : decode cX10_after 36 = .ok (.ireturn, 1) := by decide +kernel
set_option maxRecDepth 20000 in
theorem ggX10_wreck_X10_isNoForce : GoodIn wsX10_wreck wsX10_isNoForce := goodIn_r _ [5, 6, 7, 4, 8] (by decide +kernel) (by decide +kernel)
set_option maxRecDepth 20000 in
theorem gX10_wreck_X10_isNoForce : GoodIn wsX10_wreck (va_wsS RX10 177 yX10_isNoForce wsX10_isNoForce) := goodIn_app (goodIn_of _ (by decide +kernel)) ggX10_wreck_X10_isNoForce
set_option maxRecDepth 20000 in
theorem ggX10_wreck_X10_isOutside : GoodIn wsX10_wreck wsX10_isOutside := goodIn_r _ [8] (by decide +kernel) (by decide +kernel)
set_option maxRecDepth 20000 in
theorem gX10_wreck_X10_isOutside : GoodIn wsX10_wreck (va_wsS RX10 87 yX10_isOutside wsX10_isOutside) := goodIn_app (goodIn_of _ (by decide +kernel)) ggX10_wreck_X10_isOutside
set_option maxRecDepth 20000 in
theorem ggX10_wreck_X8_worstRow : GoodIn wsX10_wreck wsX8_worstRow := goodIn_r _ [12, 13, 14, 15, 4, 16, 17, 18, 10, 19, 20, 21, 22, 23, 24, 25, 26, 27, 28, 29, 30, 31, 32, 33, 34, 35, 36, 37, 38, 39, 40, 41, 42, 43, 44, 45, 46, 47, 48, 49, 50, 51, 52, 53, 54, 55, 56, 57, 58, 59, 60, 61, 62, 63, 64, 65, 66, 67, 68, 69, 7, 8, 70, 71, 72, 85, 86, 87, 88, 89, 90, 91, 92, 93, 94, 95, 96, 97, 98, 99] (by decide +kernel) (by decide +kernel)
set_option maxRecDepth 20000 in
theorem gX10_wreck_X8_worstRow_n235 : GoodIn wsX10_wreck (wsX8_worstRow) := ggX10_wreck_X8_worstRow
set_option maxRecDepth 20000 in
theorem ggX10_wreck_X10_bit : GoodIn wsX10_wreck wsX10_bit := goodIn_r _ [16] (by decide +kernel) (by decide +kernel)
set_option maxRecDepth 20000 in
theorem gX10_wreck_X10_bit : GoodIn wsX10_wreck (va_wsS RX10 195 yX10_bit wsX10_bit) := goodIn_app (goodIn_of _ (by decide +kernel)) ggX10_wreck_X10_bit
theorem dX10_wreck_0 : decode cX10_wreck 0 = .ok (.iload_n 1, 1) := by decide +kernel
theorem dX10_wreck_1 : decode cX10_wreck 1 = .ok (.invokestatic 177, 3) := by decide +kernel
theorem dX10_wreck_4 : decode cX10_wreck 4 = .ok (.ifCond .ne 21, 3) := by decide +kernel
theorem dX10_wreck_7 : decode cX10_wreck 7 = .ok (.iload_n 2, 1) := by decide +kernel
theorem dX10_wreck_8 : decode cX10_wreck 8 = .ok (.iconst 0, 1) := by decide +kernel
theorem dX10_wreck_9 : decode cX10_wreck 9 = .ok (.iconst 4, 1) := by decide +kernel
theorem dX10_wreck_10 : decode cX10_wreck 10 = .ok (.invokestatic 87, 3) := by decide +kernel
theorem dX10_wreck_13 : decode cX10_wreck 13 = .ok (.ifCond .ne 12, 3) := by decide +kernel
theorem dX10_wreck_16 : decode cX10_wreck 16 = .ok (.iload_n 3, 1) := by decide +kernel
theorem dX10_wreck_17 : decode cX10_wreck 17 = .ok (.iconst 0, 1) := by decide +kernel
theorem dX10_wreck_18 : decode cX10_wreck 18 = .ok (.iconst 1, 1) := by decide +kernel
theorem dX10_wreck_19 : decode cX10_wreck 19 = .ok (.invokestatic 87, 3) := by decide +kernel
theorem dX10_wreck_22 : decode cX10_wreck 22 = .ok (.ifCond .eq 5, 3) := by decide +kernel
theorem dX10_wreck_25 : decode cX10_wreck 25 = .ok (.iconst (-1), 1) := by decide +kernel
theorem dX10_wreck_26 : decode cX10_wreck 26 = .ok (.ireturn, 1) := by decide +kernel
theorem dX10_wreck_27 : decode cX10_wreck 27 = .ok (.aload_n 0, 1) := by decide +kernel
theorem dX10_wreck_28 : decode cX10_wreck 28 = .ok (.getfield 55, 3) := by decide +kernel
theorem dX10_wreck_31 : decode cX10_wreck 31 = .ok (.iload_n 1, 1) := by decide +kernel
theorem dX10_wreck_32 : decode cX10_wreck 32 = .ok (.iload_n 2, 1) := by decide +kernel
theorem dX10_wreck_33 : decode cX10_wreck 33 = .ok (.invokevirtual 235, 3) := by decide +kernel
theorem dX10_wreck_36 : decode cX10_wreck 36 = .ok (.istore 4, 2) := by decide +kernel
theorem dX10_wreck_38 : decode cX10_wreck 38 = .ok (.iload_n 3, 1) := by decide +kernel
theorem dX10_wreck_39 : decode cX10_wreck 39 = .ok (.ifCond .ne 10, 3) := by decide +kernel
theorem dX10_wreck_42 : decode cX10_wreck 42 = .ok (.iload 4, 2) := by decide +kernel
theorem dX10_wreck_44 : decode cX10_wreck 44 = .ok (.iconst 4, 1) := by decide +kernel
theorem dX10_wreck_45 : decode cX10_wreck 45 = .ok (.ishr, 1) := by decide +kernel
theorem dX10_wreck_46 : decode cX10_wreck 46 = .ok (.goto 12, 3) := by decide +kernel
theorem dX10_wreck_49 : decode cX10_wreck 49 = .ok (.iload 4, 2) := by decide +kernel
theorem dX10_wreck_51 : decode cX10_wreck 51 = .ok (.iconst 4, 1) := by decide +kernel
theorem dX10_wreck_52 : decode cX10_wreck 52 = .ok (.invokestatic 195, 3) := by decide +kernel
theorem dX10_wreck_55 : decode cX10_wreck 55 = .ok (.iconst 1, 1) := by decide +kernel
theorem dX10_wreck_56 : decode cX10_wreck 56 = .ok (.isub, 1) := by decide +kernel
theorem dX10_wreck_57 : decode cX10_wreck 57 = .ok (.iand, 1) := by decide +kernel
theorem dX10_wreck_58 : decode cX10_wreck 58 = .ok (.ireturn, 1) := by decide +kernel
set_option maxRecDepth 20000 in
theorem ggX10_place_X10_bit : GoodIn wsX10_place wsX10_bit := goodIn_r _ [7] (by decide +kernel) (by decide +kernel)
set_option maxRecDepth 20000 in
theorem gX10_place_X10_bit : GoodIn wsX10_place (va_wsS RX10 195 yX10_bit wsX10_bit) := goodIn_app (goodIn_of _ (by decide +kernel)) ggX10_place_X10_bit
set_option maxRecDepth 20000 in
theorem ggX10_place_X10_isOutside : GoodIn wsX10_place wsX10_isOutside := goodIn_r _ [10] (by decide +kernel) (by decide +kernel)
set_option maxRecDepth 20000 in
theorem gX10_place_X10_isOutside : GoodIn wsX10_place (va_wsS RX10 87 yX10_isOutside wsX10_isOutside) := goodIn_app (goodIn_of _ (by decide +kernel)) ggX10_place_X10_isOutside
set_option maxRecDepth 20000 in
theorem ggX10_place_X10_isNoForce : GoodIn wsX10_place wsX10_isNoForce := goodIn_r _ [13, 8, 9, 6, 10] (by decide +kernel) (by decide +kernel)
set_option maxRecDepth 20000 in
theorem gX10_place_X10_isNoForce : GoodIn wsX10_place (va_wsS RX10 177 yX10_isNoForce wsX10_isNoForce) := goodIn_app (goodIn_of _ (by decide +kernel)) ggX10_place_X10_isNoForce
set_option maxRecDepth 20000 in
theorem ggX10_place_X10_isNoAnchor : GoodIn wsX10_place wsX10_isNoAnchor := goodIn_r _ [17, 1, 8, 9, 6, 10, 77, 78, 79, 80, 81, 82, 83, 84, 85, 86, 87, 88, 89, 90, 91, 92, 93, 94, 95, 96, 97, 98] (by decide +kernel) (by decide +kernel)
set_option maxRecDepth 20000 in
theorem gX10_place_X10_isNoAnchor : GoodIn wsX10_place (wsV RX10 156 RX10 yX10_isNoAnchor wsX10_isNoAnchor) := goodIn_app (goodIn_of _ (by decide +kernel)) ggX10_place_X10_isNoAnchor
set_option maxRecDepth 20000 in
theorem ggX10_place_X10_has : GoodIn wsX10_place wsX10_has := goodIn_r _ [20, 4, 5, 6, 7] (by decide +kernel) (by decide +kernel)
set_option maxRecDepth 20000 in
theorem gX10_place_X10_has : GoodIn wsX10_place (va_wsS RX10 238 yX10_has wsX10_has) := goodIn_app (goodIn_of _ (by decide +kernel)) ggX10_place_X10_has
set_option maxRecDepth 20000 in
theorem ggX10_place_X10_thoseThatAre : GoodIn wsX10_place wsX10_thoseThatAre := goodIn_r _ [23, 24, 25, 26, 27, 28, 29, 6, 30, 4, 5, 7, 89, 90, 91, 92, 93, 94, 95, 96, 97, 98, 99] (by decide +kernel) (by decide +kernel)
set_option maxRecDepth 20000 in
theorem gX10_place_X10_thoseThatAre : GoodIn wsX10_place (va_wsS RX10 225 yX10_thoseThatAre wsX10_thoseThatAre) := goodIn_app (goodIn_of _ (by decide +kernel)) ggX10_place_X10_thoseThatAre
set_option maxRecDepth 20000 in
theorem ggX10_place_X0_berthOf : GoodIn wsX10_place wsX0_berthOf := goodIn_r _ [34, 35, 36, 37, 6, 38, 39, 40, 41, 32, 42, 43, 44, 45, 46, 47, 25, 48, 49, 50, 24, 26, 27, 28, 29, 30, 4, 5, 7, 51, 52, 53, 19, 20, 54, 55, 56, 57, 58, 59, 60, 61, 62, 63, 64, 65, 66, 67, 68, 69, 70, 71, 72, 73, 74, 75, 76, 100, 101, 102, 103, 89, 90, 91, 92, 93, 94, 95, 96, 97, 98, 99] (by decide +kernel) (by decide +kernel)
set_option maxRecDepth 20000 in
theorem gX10_place_X0_berthOf_n241 : GoodIn wsX10_place (wsX0_berthOf) := ggX10_place_X0_berthOf
theorem dX10_place_0 : decode cX10_place 0 = .ok (.iload_n 1, 1) := by decide +kernel
theorem dX10_place_1 : decode cX10_place 1 = .ok (.iconst 0, 1) := by decide +kernel
theorem dX10_place_2 : decode cX10_place 2 = .ok (.aload_n 0, 1) := by decide +kernel
theorem dX10_place_3 : decode cX10_place 3 = .ok (.getfield 10, 3) := by decide +kernel
theorem dX10_place_6 : decode cX10_place 6 = .ok (.getfield 203, 3) := by decide +kernel
theorem dX10_place_9 : decode cX10_place 9 = .ok (.invokestatic 195, 3) := by decide +kernel
theorem dX10_place_12 : decode cX10_place 12 = .ok (.iconst 1, 1) := by decide +kernel
theorem dX10_place_13 : decode cX10_place 13 = .ok (.isub, 1) := by decide +kernel
theorem dX10_place_14 : decode cX10_place 14 = .ok (.invokestatic 87, 3) := by decide +kernel
theorem dX10_place_17 : decode cX10_place 17 = .ok (.ifCond .ne 26, 3) := by decide +kernel
theorem dX10_place_20 : decode cX10_place 20 = .ok (.iload_n 2, 1) := by decide +kernel
theorem dX10_place_21 : decode cX10_place 21 = .ok (.invokestatic 177, 3) := by decide +kernel
theorem dX10_place_24 : decode cX10_place 24 = .ok (.ifCond .ne 19, 3) := by decide +kernel
theorem dX10_place_27 : decode cX10_place 27 = .ok (.aload_n 0, 1) := by decide +kernel
theorem dX10_place_28 : decode cX10_place 28 = .ok (.iload_n 3, 1) := by decide +kernel
theorem dX10_place_29 : decode cX10_place 29 = .ok (.invokevirtual 156, 3) := by decide +kernel
theorem dX10_place_32 : decode cX10_place 32 = .ok (.ifCond .ne 11, 3) := by decide +kernel
theorem dX10_place_35 : decode cX10_place 35 = .ok (.iload_n 1, 1) := by decide +kernel
theorem dX10_place_36 : decode cX10_place 36 = .ok (.iload_n 3, 1) := by decide +kernel
theorem dX10_place_37 : decode cX10_place 37 = .ok (.invokestatic 238, 3) := by decide +kernel
theorem dX10_place_40 : decode cX10_place 40 = .ok (.ifCond .ne 5, 3) := by decide +kernel
theorem dX10_place_43 : decode cX10_place 43 = .ok (.iconst (-1), 1) := by decide +kernel
theorem dX10_place_44 : decode cX10_place 44 = .ok (.ireturn, 1) := by decide +kernel
theorem dX10_place_45 : decode cX10_place 45 = .ok (.iload_n 1, 1) := by decide +kernel
theorem dX10_place_46 : decode cX10_place 46 = .ok (.aload_n 0, 1) := by decide +kernel
theorem dX10_place_47 : decode cX10_place 47 = .ok (.getfield 10, 3) := by decide +kernel
theorem dX10_place_50 : decode cX10_place 50 = .ok (.aload_n 0, 1) := by decide +kernel
theorem dX10_place_51 : decode cX10_place 51 = .ok (.getfield 22, 3) := by decide +kernel
theorem dX10_place_54 : decode cX10_place 54 = .ok (.iconst 0, 1) := by decide +kernel
theorem dX10_place_55 : decode cX10_place 55 = .ok (.invokestatic 225, 3) := by decide +kernel
theorem dX10_place_58 : decode cX10_place 58 = .ok (.iand, 1) := by decide +kernel
theorem dX10_place_59 : decode cX10_place 59 = .ok (.iload_n 1, 1) := by decide +kernel
theorem dX10_place_60 : decode cX10_place 60 = .ok (.if_icmp .eq 6, 3) := by decide +kernel
theorem dX10_place_63 : decode cX10_place 63 = .ok (.bipush (-2), 2) := by decide +kernel
theorem dX10_place_65 : decode cX10_place 65 = .ok (.ireturn, 1) := by decide +kernel
theorem dX10_place_66 : decode cX10_place 66 = .ok (.aload_n 0, 1) := by decide +kernel
theorem dX10_place_67 : decode cX10_place 67 = .ok (.getfield 62, 3) := by decide +kernel
theorem dX10_place_70 : decode cX10_place 70 = .ok (.iload_n 1, 1) := by decide +kernel
theorem dX10_place_71 : decode cX10_place 71 = .ok (.iload_n 2, 1) := by decide +kernel
theorem dX10_place_72 : decode cX10_place 72 = .ok (.iload_n 3, 1) := by decide +kernel
theorem dX10_place_73 : decode cX10_place 73 = .ok (.invokevirtual 241, 3) := by decide +kernel
theorem dX10_place_76 : decode cX10_place 76 = .ok (.ireturn, 1) := by decide +kernel
set_option maxRecDepth 20000 in
theorem ggX10_vital_X10_isNoRaft : GoodIn wsX10_vital wsX10_isNoRaft := goodIn_r _ [6, 7, 8, 9, 5, 10, 61, 62, 63, 64, 65, 66, 67, 68, 69, 70, 71, 72, 73, 74, 75, 76, 77, 78, 79, 80, 81, 82] (by decide +kernel) (by decide +kernel)
set_option maxRecDepth 20000 in
theorem gX10_vital_X10_isNoRaft : GoodIn wsX10_vital (wsV RX10 136 RX10 yX10_isNoRaft wsX10_isNoRaft) := goodIn_app (goodIn_of _ (by decide +kernel)) ggX10_vital_X10_isNoRaft
set_option maxRecDepth 20000 in
theorem ggX10_vital_X10_isNoForce : GoodIn wsX10_vital wsX10_isNoForce := goodIn_r _ [13, 8, 9, 5, 10] (by decide +kernel) (by decide +kernel)
set_option maxRecDepth 20000 in
theorem gX10_vital_X10_isNoForce : GoodIn wsX10_vital (va_wsS RX10 177 yX10_isNoForce wsX10_isNoForce) := goodIn_app (goodIn_of _ (by decide +kernel)) ggX10_vital_X10_isNoForce
set_option maxRecDepth 20000 in
theorem ggX10_vital_X2_vitalFor : GoodIn wsX10_vital wsX2_vitalFor := goodIn_r _ [17, 18, 19, 20, 21, 22, 15, 23, 24, 5, 25, 26, 27, 28, 29, 30, 31, 32, 33, 34, 35, 36, 37, 38, 39, 40, 41, 42, 43, 44, 45, 46, 47, 48, 49, 50, 51, 52, 53, 54, 55, 56, 57, 58, 59, 60, 83, 84, 73, 74, 75, 76, 77, 78, 79, 80, 81, 82, 85] (by decide +kernel) (by decide +kernel)
set_option maxRecDepth 20000 in
theorem gX10_vital_X2_vitalFor_n244 : GoodIn wsX10_vital (wsX2_vitalFor) := ggX10_vital_X2_vitalFor
theorem dX10_vital_0 : decode cX10_vital 0 = .ok (.aload_n 0, 1) := by decide +kernel
theorem dX10_vital_1 : decode cX10_vital 1 = .ok (.iload_n 1, 1) := by decide +kernel
theorem dX10_vital_2 : decode cX10_vital 2 = .ok (.invokevirtual 136, 3) := by decide +kernel
theorem dX10_vital_5 : decode cX10_vital 5 = .ok (.ifCond .ne 10, 3) := by decide +kernel
theorem dX10_vital_8 : decode cX10_vital 8 = .ok (.iload_n 2, 1) := by decide +kernel
theorem dX10_vital_9 : decode cX10_vital 9 = .ok (.invokestatic 177, 3) := by decide +kernel
theorem dX10_vital_12 : decode cX10_vital 12 = .ok (.ifCond .eq 5, 3) := by decide +kernel
theorem dX10_vital_15 : decode cX10_vital 15 = .ok (.iconst (-1), 1) := by decide +kernel
theorem dX10_vital_16 : decode cX10_vital 16 = .ok (.ireturn, 1) := by decide +kernel
theorem dX10_vital_17 : decode cX10_vital 17 = .ok (.aload_n 0, 1) := by decide +kernel
theorem dX10_vital_18 : decode cX10_vital 18 = .ok (.getfield 69, 3) := by decide +kernel
theorem dX10_vital_21 : decode cX10_vital 21 = .ok (.iload_n 1, 1) := by decide +kernel
theorem dX10_vital_22 : decode cX10_vital 22 = .ok (.iload_n 2, 1) := by decide +kernel
theorem dX10_vital_23 : decode cX10_vital 23 = .ok (.invokevirtual 244, 3) := by decide +kernel
theorem dX10_vital_26 : decode cX10_vital 26 = .ok (.ireturn, 1) := by decide +kernel
set_option maxRecDepth 20000 in
theorem ggX10_odds_X10_isNoAnchor : GoodIn wsX10_odds wsX10_isNoAnchor := goodIn_r _ [11, 12, 13, 14, 10, 15, 68, 69, 70, 71, 72, 73, 74, 75, 76, 77, 78, 79, 80, 81, 82, 83, 84, 85, 86, 87, 88, 89] (by decide +kernel) (by decide +kernel)
set_option maxRecDepth 20000 in
theorem gX10_odds_X10_isNoAnchor : GoodIn wsX10_odds (wsV RX10 156 RX10 yX10_isNoAnchor wsX10_isNoAnchor) := goodIn_app (goodIn_of _ (by decide +kernel)) ggX10_odds_X10_isNoAnchor
set_option maxRecDepth 20000 in
theorem ggX10_odds_X10_isNoForce : GoodIn wsX10_odds wsX10_isNoForce := goodIn_r _ [18, 13, 14, 10, 15] (by decide +kernel) (by decide +kernel)
set_option maxRecDepth 20000 in
theorem gX10_odds_X10_isNoForce : GoodIn wsX10_odds (va_wsS RX10 177 yX10_isNoForce wsX10_isNoForce) := goodIn_app (goodIn_of _ (by decide +kernel)) ggX10_odds_X10_isNoForce
set_option maxRecDepth 20000 in
theorem ggX10_odds_X10_isOutside : GoodIn wsX10_odds wsX10_isOutside := goodIn_r _ [15] (by decide +kernel) (by decide +kernel)
set_option maxRecDepth 20000 in
theorem gX10_odds_X10_isOutside : GoodIn wsX10_odds (va_wsS RX10 87 yX10_isOutside wsX10_isOutside) := goodIn_app (goodIn_of _ (by decide +kernel)) ggX10_odds_X10_isOutside
set_option maxRecDepth 20000 in
theorem ggX10_odds_X5_lies : GoodIn wsX10_odds wsX5_lies := goodIn_r _ [22, 23, 24, 25, 20, 26, 27, 28, 10, 29, 90] (by decide +kernel) (by decide +kernel)
set_option maxRecDepth 20000 in
theorem gX10_odds_X5_lies_n168 : GoodIn wsX10_odds (wsX5_lies) := ggX10_odds_X5_lies
set_option maxRecDepth 20000 in
theorem ggX10_odds_X8_holdOf : GoodIn wsX10_odds wsX8_holdOf := goodIn_r _ [33, 34, 35, 36, 37, 38, 31, 39, 40, 41, 10, 42, 19, 20, 21, 22, 23, 24, 25, 26, 27, 28, 29, 43, 44, 45, 46, 47, 48, 49, 50, 51, 52, 53, 54, 55, 56, 57, 91, 92, 93, 94, 80, 81, 82, 83, 84, 85, 86, 87, 88, 89, 90] (by decide +kernel) (by decide +kernel)
set_option maxRecDepth 20000 in
theorem gX10_odds_X8_holdOf_n171 : GoodIn wsX10_odds (wsX8_holdOf) := ggX10_odds_X8_holdOf
set_option maxRecDepth 20000 in
theorem ggX10_odds_X10_commonPart : GoodIn wsX10_odds wsX10_commonPart := goodIn_r _ [60, 61, 62, 5, 63, 3, 4, 6] (by decide +kernel) (by decide +kernel)
set_option maxRecDepth 20000 in
theorem gX10_odds_X10_commonPart : GoodIn wsX10_odds (va_wsS RX10 247 yX10_commonPart wsX10_commonPart) := goodIn_app (goodIn_of _ (by decide +kernel)) ggX10_odds_X10_commonPart
set_option maxRecDepth 20000 in
theorem ggX10_odds_X10_divided : GoodIn wsX10_odds wsX10_divided := goodIn_r _ [55] (by decide +kernel) (by decide +kernel)
set_option maxRecDepth 20000 in
theorem gX10_odds_X10_divided : GoodIn wsX10_odds (va_wsS RX10 250 yX10_divided wsX10_divided) := goodIn_app (goodIn_of _ (by decide +kernel)) ggX10_odds_X10_divided
set_option maxRecDepth 20000 in
theorem ggX10_odds_X10_power : GoodIn wsX10_odds wsX10_power := goodIn_r _ [67] (by decide +kernel) (by decide +kernel)
set_option maxRecDepth 20000 in
theorem gX10_odds_X10_power : GoodIn wsX10_odds (va_wsS RX10 253 yX10_power wsX10_power) := goodIn_app (goodIn_of _ (by decide +kernel)) ggX10_odds_X10_power
theorem dX10_odds_0 : decode cX10_odds 0 = .ok (.aload_n 0, 1) := by decide +kernel
theorem dX10_odds_1 : decode cX10_odds 1 = .ok (.iload_n 1, 1) := by decide +kernel
theorem dX10_odds_2 : decode cX10_odds 2 = .ok (.invokevirtual 156, 3) := by decide +kernel
theorem dX10_odds_5 : decode cX10_odds 5 = .ok (.ifCond .ne 29, 3) := by decide +kernel
theorem dX10_odds_8 : decode cX10_odds 8 = .ok (.iload_n 2, 1) := by decide +kernel
theorem dX10_odds_9 : decode cX10_odds 9 = .ok (.invokestatic 177, 3) := by decide +kernel
theorem dX10_odds_12 : decode cX10_odds 12 = .ok (.ifCond .ne 22, 3) := by decide +kernel
theorem dX10_odds_15 : decode cX10_odds 15 = .ok (.iload_n 3, 1) := by decide +kernel
theorem dX10_odds_16 : decode cX10_odds 16 = .ok (.iconst 0, 1) := by decide +kernel
theorem dX10_odds_17 : decode cX10_odds 17 = .ok (.iconst 4, 1) := by decide +kernel
theorem dX10_odds_18 : decode cX10_odds 18 = .ok (.invokestatic 87, 3) := by decide +kernel
theorem dX10_odds_21 : decode cX10_odds 21 = .ok (.ifCond .ne 13, 3) := by decide +kernel
theorem dX10_odds_24 : decode cX10_odds 24 = .ok (.iload 4, 2) := by decide +kernel
theorem dX10_odds_26 : decode cX10_odds 26 = .ok (.iconst 0, 1) := by decide +kernel
theorem dX10_odds_27 : decode cX10_odds 27 = .ok (.iconst 1, 1) := by decide +kernel
theorem dX10_odds_28 : decode cX10_odds 28 = .ok (.invokestatic 87, 3) := by decide +kernel
theorem dX10_odds_31 : decode cX10_odds 31 = .ok (.ifCond .eq 5, 3) := by decide +kernel
theorem dX10_odds_34 : decode cX10_odds 34 = .ok (.iconst (-1), 1) := by decide +kernel
theorem dX10_odds_35 : decode cX10_odds 35 = .ok (.ireturn, 1) := by decide +kernel
theorem dX10_odds_36 : decode cX10_odds 36 = .ok (.aload_n 0, 1) := by decide +kernel
theorem dX10_odds_37 : decode cX10_odds 37 = .ok (.getfield 22, 3) := by decide +kernel
theorem dX10_odds_40 : decode cX10_odds 40 = .ok (.iload_n 1, 1) := by decide +kernel
theorem dX10_odds_41 : decode cX10_odds 41 = .ok (.invokevirtual 168, 3) := by decide +kernel
theorem dX10_odds_44 : decode cX10_odds 44 = .ok (.ifCond .ne 6, 3) := by decide +kernel
theorem dX10_odds_47 : decode cX10_odds 47 = .ok (.bipush (-2), 2) := by decide +kernel
theorem dX10_odds_49 : decode cX10_odds 49 = .ok (.ireturn, 1) := by decide +kernel
theorem dX10_odds_50 : decode cX10_odds 50 = .ok (.aload_n 0, 1) := by decide +kernel
theorem dX10_odds_51 : decode cX10_odds 51 = .ok (.getfield 55, 3) := by decide +kernel
theorem dX10_odds_54 : decode cX10_odds 54 = .ok (.iload_n 1, 1) := by decide +kernel
theorem dX10_odds_55 : decode cX10_odds 55 = .ok (.invokevirtual 171, 3) := by decide +kernel
theorem dX10_odds_58 : decode cX10_odds 58 = .ok (.iload_n 2, 1) := by decide +kernel
theorem dX10_odds_59 : decode cX10_odds 59 = .ok (.invokestatic 206, 3) := by decide +kernel
theorem dX10_odds_62 : decode cX10_odds 62 = .ok (.istore 5, 2) := by decide +kernel
theorem dX10_odds_64 : decode cX10_odds 64 = .ok (.iload 5, 2) := by decide +kernel
theorem dX10_odds_66 : decode cX10_odds 66 = .ok (.iload_n 2, 1) := by decide +kernel
theorem dX10_odds_67 : decode cX10_odds 67 = .ok (.invokestatic 247, 3) := by decide +kernel
theorem dX10_odds_70 : decode cX10_odds 70 = .ok (.istore 6, 2) := by decide +kernel
theorem dX10_odds_72 : decode cX10_odds 72 = .ok (.iload 4, 2) := by decide +kernel
theorem dX10_odds_74 : decode cX10_odds 74 = .ok (.ifCond .ne 13, 3) := by decide +kernel
theorem dX10_odds_77 : decode cX10_odds 77 = .ok (.iload 5, 2) := by decide +kernel
theorem dX10_odds_79 : decode cX10_odds 79 = .ok (.iload 6, 2) := by decide +kernel
theorem dX10_odds_81 : decode cX10_odds 81 = .ok (.invokestatic 250, 3) := by decide +kernel
theorem dX10_odds_84 : decode cX10_odds 84 = .ok (.goto 9, 3) := by decide +kernel
theorem dX10_odds_87 : decode cX10_odds 87 = .ok (.iload_n 2, 1) := by decide +kernel
theorem dX10_odds_88 : decode cX10_odds 88 = .ok (.iload 6, 2) := by decide +kernel
theorem dX10_odds_90 : decode cX10_odds 90 = .ok (.invokestatic 250, 3) := by decide +kernel
theorem dX10_odds_93 : decode cX10_odds 93 = .ok (.iload_n 3, 1) := by decide +kernel
theorem dX10_odds_94 : decode cX10_odds 94 = .ok (.invokestatic 253, 3) := by decide +kernel
theorem dX10_odds_97 : decode cX10_odds 97 = .ok (.ireturn, 1) := by decide +kernel
set_option maxRecDepth 20000 in
theorem ggX10_hears_X10_isNoForce : GoodIn wsX10_hears wsX10_isNoForce := goodIn_r _ [5, 6, 7, 4, 8] (by decide +kernel) (by decide +kernel)
set_option maxRecDepth 20000 in
theorem gX10_hears_X10_isNoForce : GoodIn wsX10_hears (va_wsS RX10 177 yX10_isNoForce wsX10_isNoForce) := goodIn_app (goodIn_of _ (by decide +kernel)) ggX10_hears_X10_isNoForce
set_option maxRecDepth 20000 in
theorem ggX10_hears_X10_isOutside : GoodIn wsX10_hears wsX10_isOutside := goodIn_r _ [8] (by decide +kernel) (by decide +kernel)
set_option maxRecDepth 20000 in
theorem gX10_hears_X10_isOutside : GoodIn wsX10_hears (va_wsS RX10 87 yX10_isOutside wsX10_isOutside) := goodIn_app (goodIn_of _ (by decide +kernel)) ggX10_hears_X10_isOutside
set_option maxRecDepth 20000 in
theorem ggX10_hears_X1_takes : GoodIn wsX10_hears wsX1_takes := goodIn_r _ [12, 13, 14, 15, 16, 4, 17, 30, 31, 32, 33, 34, 35] (by decide +kernel) (by decide +kernel)
set_option maxRecDepth 20000 in
theorem gX10_hears_X1_takes_n256 : GoodIn wsX10_hears (wsX1_takes) := ggX10_hears_X1_takes
theorem dX10_hears_0 : decode cX10_hears 0 = .ok (.iload_n 1, 1) := by decide +kernel
theorem dX10_hears_1 : decode cX10_hears 1 = .ok (.invokestatic 177, 3) := by decide +kernel
theorem dX10_hears_4 : decode cX10_hears 4 = .ok (.ifCond .ne 12, 3) := by decide +kernel
theorem dX10_hears_7 : decode cX10_hears 7 = .ok (.iload_n 2, 1) := by decide +kernel
theorem dX10_hears_8 : decode cX10_hears 8 = .ok (.iconst 0, 1) := by decide +kernel
theorem dX10_hears_9 : decode cX10_hears 9 = .ok (.iconst 1, 1) := by decide +kernel
theorem dX10_hears_10 : decode cX10_hears 10 = .ok (.invokestatic 87, 3) := by decide +kernel
theorem dX10_hears_13 : decode cX10_hears 13 = .ok (.ifCond .eq 5, 3) := by decide +kernel
theorem dX10_hears_16 : decode cX10_hears 16 = .ok (.iconst (-1), 1) := by decide +kernel
theorem dX10_hears_17 : decode cX10_hears 17 = .ok (.ireturn, 1) := by decide +kernel
theorem dX10_hears_18 : decode cX10_hears 18 = .ok (.aload_n 0, 1) := by decide +kernel
theorem dX10_hears_19 : decode cX10_hears 19 = .ok (.getfield 76, 3) := by decide +kernel
theorem dX10_hears_22 : decode cX10_hears 22 = .ok (.iload_n 1, 1) := by decide +kernel
theorem dX10_hears_23 : decode cX10_hears 23 = .ok (.iload_n 2, 1) := by decide +kernel
theorem dX10_hears_24 : decode cX10_hears 24 = .ok (.invokevirtual 256, 3) := by decide +kernel
theorem dX10_hears_27 : decode cX10_hears 27 = .ok (.ifCond .eq 13, 3) := by decide +kernel
theorem dX10_hears_30 : decode cX10_hears 30 = .ok (.aload_n 0, 1) := by decide +kernel
theorem dX10_hears_31 : decode cX10_hears 31 = .ok (.getfield 76, 3) := by decide +kernel
theorem dX10_hears_34 : decode cX10_hears 34 = .ok (.getfield 116, 3) := by decide +kernel
theorem dX10_hears_37 : decode cX10_hears 37 = .ok (.goto 5, 3) := by decide +kernel
theorem dX10_hears_40 : decode cX10_hears 40 = .ok (.bipush (-3), 2) := by decide +kernel
theorem dX10_hears_42 : decode cX10_hears 42 = .ok (.ireturn, 1) := by decide +kernel
theorem dX10_forget_0 : decode cX10_forget 0 = .ok (.aload_n 0, 1) := by decide +kernel
theorem dX10_forget_1 : decode cX10_forget 1 = .ok (.getfield 76, 3) := by decide +kernel
theorem dX10_forget_4 : decode cX10_forget 4 = .ok (.getfield 116, 3) := by decide +kernel
theorem dX10_forget_7 : decode cX10_forget 7 = .ok (.istore_n 1, 1) := by decide +kernel
theorem dX10_forget_8 : decode cX10_forget 8 = .ok (.aload_n 0, 1) := by decide +kernel
theorem dX10_forget_9 : decode cX10_forget 9 = .ok (.getfield 76, 3) := by decide +kernel
theorem dX10_forget_12 : decode cX10_forget 12 = .ok (.iconst 0, 1) := by decide +kernel
theorem dX10_forget_13 : decode cX10_forget 13 = .ok (.putfield 116, 3) := by decide +kernel
theorem dX10_forget_16 : decode cX10_forget 16 = .ok (.iload_n 1, 1) := by decide +kernel
theorem dX10_forget_17 : decode cX10_forget 17 = .ok (.ireturn, 1) := by decide +kernel
set_option maxRecDepth 20000 in
theorem ggX10_fits_X1_fitting : GoodIn wsX10_fits wsX1_fitting := goodIn_r _ [5, 6, 7, 8, 9, 10, 11, 12, 13, 3, 14, 15, 16, 17, 18, 19, 20, 21, 22, 23, 24, 25, 26, 27, 28, 29, 30, 31, 32, 33, 34, 35, 36, 37, 38, 39, 40, 41, 42, 43, 44, 45, 46, 47, 60, 61, 62, 63, 64, 65, 66, 67, 68, 69, 70, 71, 72, 73, 74, 75, 76] (by decide +kernel) (by decide +kernel)
set_option maxRecDepth 20000 in
theorem gX10_fits_X1_fitting_n258 : GoodIn wsX10_fits (wsX1_fitting) := ggX10_fits_X1_fitting
theorem dX10_fits_0 : decode cX10_fits 0 = .ok (.aload_n 0, 1) := by decide +kernel
theorem dX10_fits_1 : decode cX10_fits 1 = .ok (.getfield 76, 3) := by decide +kernel
theorem dX10_fits_4 : decode cX10_fits 4 = .ok (.invokevirtual 258, 3) := by decide +kernel
theorem dX10_fits_7 : decode cX10_fits 7 = .ok (.ireturn, 1) := by decide +kernel
set_option maxRecDepth 20000 in
theorem ggX10_ask_X1_bestQuestion : GoodIn wsX10_ask wsX1_bestQuestion := goodIn_r _ [5, 6, 7, 8, 9, 10, 11, 12, 3, 13, 14, 15, 16, 17, 18, 19, 20, 21, 22, 23, 24, 25, 26, 27, 28, 29, 30, 31, 32, 33, 34, 35, 36, 37, 38, 39, 40, 41, 42, 43, 44, 45, 46, 47, 48, 49, 50, 51, 52, 53, 54, 55, 56, 57, 58, 59, 60, 61, 62, 75, 76, 77, 78, 79, 80, 81, 82, 83, 84, 85, 86, 87, 88, 89, 90, 91] (by decide +kernel) (by decide +kernel)
set_option maxRecDepth 20000 in
theorem gX10_ask_X1_bestQuestion_n261 : GoodIn wsX10_ask (wsX1_bestQuestion) := ggX10_ask_X1_bestQuestion
theorem dX10_ask_0 : decode cX10_ask 0 = .ok (.aload_n 0, 1) := by decide +kernel
theorem dX10_ask_1 : decode cX10_ask 1 = .ok (.getfield 76, 3) := by decide +kernel
theorem dX10_ask_4 : decode cX10_ask 4 = .ok (.invokevirtual 261, 3) := by decide +kernel
theorem dX10_ask_7 : decode cX10_ask 7 = .ok (.ireturn, 1) := by decide +kernel
set_option maxRecDepth 20000 in
theorem ggX10_mark_X10_isOutside : GoodIn wsX10_mark wsX10_isOutside := goodIn_r _ [6] (by decide +kernel) (by decide +kernel)
set_option maxRecDepth 20000 in
theorem gX10_mark_X10_isOutside : GoodIn wsX10_mark (va_wsS RX10 87 yX10_isOutside wsX10_isOutside) := goodIn_app (goodIn_of _ (by decide +kernel)) ggX10_mark_X10_isOutside
set_option maxRecDepth 20000 in
theorem ggX10_mark_X10_isNoAnchor : GoodIn wsX10_mark wsX10_isNoAnchor := goodIn_r _ [10, 11, 3, 4, 5, 6, 41, 42, 43, 44, 45, 46, 47, 48, 49, 50, 51, 52, 53, 54, 55, 56, 57, 58, 59, 60, 61, 62] (by decide +kernel) (by decide +kernel)
set_option maxRecDepth 20000 in
theorem gX10_mark_X10_isNoAnchor : GoodIn wsX10_mark (wsV RX10 156 RX10 yX10_isNoAnchor wsX10_isNoAnchor) := goodIn_app (goodIn_of _ (by decide +kernel)) ggX10_mark_X10_isNoAnchor
set_option maxRecDepth 20000 in
theorem ggX10_mark_X4_markAs : GoodIn wsX10_mark wsX4_markAs := goodIn_r _ [14, 15, 16, 17, 18, 19, 20, 5, 21, 22, 23, 24, 25, 26, 27, 28, 29, 30, 31, 32, 33, 34, 35, 36, 37, 38, 39, 40, 12, 13, 63, 64, 65, 53, 54, 55, 56, 57, 58, 59, 60, 61, 62, 66] (by decide +kernel) (by decide +kernel)
set_option maxRecDepth 20000 in
theorem gX10_mark_X4_markAs_n265 : GoodIn wsX10_mark (wsX4_markAs) := ggX10_mark_X4_markAs
theorem dX10_mark_0 : decode cX10_mark 0 = .ok (.iload_n 1, 1) := by decide +kernel
theorem dX10_mark_1 : decode cX10_mark 1 = .ok (.iconst 0, 1) := by decide +kernel
theorem dX10_mark_2 : decode cX10_mark 2 = .ok (.iconst 5, 1) := by decide +kernel
theorem dX10_mark_3 : decode cX10_mark 3 = .ok (.invokestatic 87, 3) := by decide +kernel
theorem dX10_mark_6 : decode cX10_mark 6 = .ok (.ifCond .ne 11, 3) := by decide +kernel
theorem dX10_mark_9 : decode cX10_mark 9 = .ok (.aload_n 0, 1) := by decide +kernel
theorem dX10_mark_10 : decode cX10_mark 10 = .ok (.iload_n 2, 1) := by decide +kernel
theorem dX10_mark_11 : decode cX10_mark 11 = .ok (.invokevirtual 156, 3) := by decide +kernel
theorem dX10_mark_14 : decode cX10_mark 14 = .ok (.ifCond .eq 7, 3) := by decide +kernel
theorem dX10_mark_17 : decode cX10_mark 17 = .ok (.ldc_w 264, 3) := by decide +kernel
theorem dX10_mark_20 : decode cX10_mark 20 = .ok (.ireturn, 1) := by decide +kernel
theorem dX10_mark_21 : decode cX10_mark 21 = .ok (.aload_n 0, 1) := by decide +kernel
theorem dX10_mark_22 : decode cX10_mark 22 = .ok (.getfield 83, 3) := by decide +kernel
theorem dX10_mark_25 : decode cX10_mark 25 = .ok (.iload_n 1, 1) := by decide +kernel
theorem dX10_mark_26 : decode cX10_mark 26 = .ok (.iload_n 2, 1) := by decide +kernel
theorem dX10_mark_27 : decode cX10_mark 27 = .ok (.iconst 3, 1) := by decide +kernel
theorem dX10_mark_28 : decode cX10_mark 28 = .ok (.invokestatic 265, 3) := by decide +kernel
theorem dX10_mark_31 : decode cX10_mark 31 = .ok (.ireturn, 1) := by decide +kernel
set_option maxRecDepth 20000 in
theorem ggX10_keep_X10_isOutside : GoodIn wsX10_keep wsX10_isOutside := goodIn_r _ [7] (by decide +kernel) (by decide +kernel)
set_option maxRecDepth 20000 in
theorem gX10_keep_X10_isOutside : GoodIn wsX10_keep (va_wsS RX10 87 yX10_isOutside wsX10_isOutside) := goodIn_app (goodIn_of _ (by decide +kernel)) ggX10_keep_X10_isOutside
set_option maxRecDepth 20000 in
theorem ggX10_keep_X10_imageOf : GoodIn wsX10_keep wsX10_imageOf := goodIn_r _ [11, 12, 13, 49, 50, 51, 52, 53, 54, 55, 56, 57, 58, 59, 60] (by decide +kernel) (by decide +kernel)
set_option maxRecDepth 20000 in
theorem gX10_keep_X10_imageOf : GoodIn wsX10_keep (wsV RX10 269 RX10 yX10_imageOf wsX10_imageOf) := goodIn_app (goodIn_of _ (by decide +kernel)) ggX10_keep_X10_imageOf
set_option maxRecDepth 20000 in
theorem ggX10_keep_X3_keeps : GoodIn wsX10_keep wsX3_keeps := goodIn_r _ [17, 18, 19, 20, 21, 22, 23, 24, 25, 26, 6, 27, 28, 29, 30, 31, 32, 33, 34, 35, 36, 37, 61, 62, 63, 64, 65, 66] (by decide +kernel) (by decide +kernel)
set_option maxRecDepth 20000 in
theorem gX10_keep_X3_keeps_n273 : GoodIn wsX10_keep (wsX3_keeps) := ggX10_keep_X3_keeps
set_option maxRecDepth 20000 in
theorem ggX10_keep_X10_thoseThatAre : GoodIn wsX10_keep wsX10_thoseThatAre := goodIn_r _ [40, 41, 22, 42, 43, 25, 44, 6, 45, 46, 47, 48, 67, 68, 69, 70, 71, 72, 73, 74, 75, 76, 64] (by decide +kernel) (by decide +kernel)
set_option maxRecDepth 20000 in
theorem gX10_keep_X10_thoseThatAre : GoodIn wsX10_keep (va_wsS RX10 225 yX10_thoseThatAre wsX10_thoseThatAre) := goodIn_app (goodIn_of _ (by decide +kernel)) ggX10_keep_X10_thoseThatAre
theorem dX10_keep_0 : decode cX10_keep 0 = .ok (.iload_n 1, 1) := by decide +kernel
theorem dX10_keep_1 : decode cX10_keep 1 = .ok (.iconst 0, 1) := by decide +kernel
theorem dX10_keep_2 : decode cX10_keep 2 = .ok (.iconst 1, 1) := by decide +kernel
theorem dX10_keep_3 : decode cX10_keep 3 = .ok (.invokestatic 87, 3) := by decide +kernel
theorem dX10_keep_6 : decode cX10_keep 6 = .ok (.ifCond .eq 5, 3) := by decide +kernel
theorem dX10_keep_9 : decode cX10_keep 9 = .ok (.iconst (-1), 1) := by decide +kernel
theorem dX10_keep_10 : decode cX10_keep 10 = .ok (.ireturn, 1) := by decide +kernel
theorem dX10_keep_11 : decode cX10_keep 11 = .ok (.aload_n 0, 1) := by decide +kernel
theorem dX10_keep_12 : decode cX10_keep 12 = .ok (.iload_n 1, 1) := by decide +kernel
theorem dX10_keep_13 : decode cX10_keep 13 = .ok (.invokevirtual 269, 3) := by decide +kernel
theorem dX10_keep_16 : decode cX10_keep 16 = .ok (.aload_n 0, 1) := by decide +kernel
theorem dX10_keep_17 : decode cX10_keep 17 = .ok (.getfield 22, 3) := by decide +kernel
theorem dX10_keep_20 : decode cX10_keep 20 = .ok (.aload_n 0, 1) := by decide +kernel
theorem dX10_keep_21 : decode cX10_keep 21 = .ok (.getfield 29, 3) := by decide +kernel
theorem dX10_keep_24 : decode cX10_keep 24 = .ok (.invokevirtual 273, 3) := by decide +kernel
theorem dX10_keep_27 : decode cX10_keep 27 = .ok (.aload_n 0, 1) := by decide +kernel
theorem dX10_keep_28 : decode cX10_keep 28 = .ok (.getfield 10, 3) := by decide +kernel
theorem dX10_keep_31 : decode cX10_keep 31 = .ok (.aload_n 0, 1) := by decide +kernel
theorem dX10_keep_32 : decode cX10_keep 32 = .ok (.getfield 22, 3) := by decide +kernel
theorem dX10_keep_35 : decode cX10_keep 35 = .ok (.iconst 0, 1) := by decide +kernel
theorem dX10_keep_36 : decode cX10_keep 36 = .ok (.invokestatic 225, 3) := by decide +kernel
theorem dX10_keep_39 : decode cX10_keep 39 = .ok (.ireturn, 1) := by decide +kernel
set_option maxRecDepth 20000 in
theorem ggX10_back_X10_isOutside : GoodIn wsX10_back wsX10_isOutside := goodIn_r _ [7] (by decide +kernel) (by decide +kernel)
set_option maxRecDepth 20000 in
theorem gX10_back_X10_isOutside : GoodIn wsX10_back (va_wsS RX10 87 yX10_isOutside wsX10_isOutside) := goodIn_app (goodIn_of _ (by decide +kernel)) ggX10_back_X10_isOutside
set_option maxRecDepth 20000 in
theorem ggX10_back_X10_imageOf : GoodIn wsX10_back wsX10_imageOf := goodIn_r _ [11, 12, 13, 51, 52, 53, 54, 55, 56, 57, 58, 59, 60, 61, 62] (by decide +kernel) (by decide +kernel)
set_option maxRecDepth 20000 in
theorem gX10_back_X10_imageOf : GoodIn wsX10_back (wsV RX10 269 RX10 yX10_imageOf wsX10_imageOf) := goodIn_app (goodIn_of _ (by decide +kernel)) ggX10_back_X10_imageOf
set_option maxRecDepth 20000 in
theorem ggX10_back_X3_givesBack : GoodIn wsX10_back wsX3_givesBack := goodIn_r _ [17, 18, 19, 20, 21, 22, 23, 24, 25, 6, 26, 27, 28, 29, 30, 31, 32, 33, 34, 35, 36, 48, 49, 50, 63, 64, 65] (by decide +kernel) (by decide +kernel)
set_option maxRecDepth 20000 in
theorem gX10_back_X3_givesBack_n277 : GoodIn wsX10_back (wsX3_givesBack) := ggX10_back_X3_givesBack
set_option maxRecDepth 20000 in
theorem ggX10_back_X10_thoseThatAre : GoodIn wsX10_back wsX10_thoseThatAre := goodIn_r _ [39, 40, 21, 41, 42, 24, 43, 6, 44, 45, 46, 47, 66, 67, 68, 69, 70, 71, 72, 73, 74, 75, 63] (by decide +kernel) (by decide +kernel)
set_option maxRecDepth 20000 in
theorem gX10_back_X10_thoseThatAre : GoodIn wsX10_back (va_wsS RX10 225 yX10_thoseThatAre wsX10_thoseThatAre) := goodIn_app (goodIn_of _ (by decide +kernel)) ggX10_back_X10_thoseThatAre
theorem dX10_back_0 : decode cX10_back 0 = .ok (.iload_n 1, 1) := by decide +kernel
theorem dX10_back_1 : decode cX10_back 1 = .ok (.iconst 0, 1) := by decide +kernel
theorem dX10_back_2 : decode cX10_back 2 = .ok (.iconst 1, 1) := by decide +kernel
theorem dX10_back_3 : decode cX10_back 3 = .ok (.invokestatic 87, 3) := by decide +kernel
theorem dX10_back_6 : decode cX10_back 6 = .ok (.ifCond .eq 5, 3) := by decide +kernel
theorem dX10_back_9 : decode cX10_back 9 = .ok (.iconst (-1), 1) := by decide +kernel
theorem dX10_back_10 : decode cX10_back 10 = .ok (.ireturn, 1) := by decide +kernel
theorem dX10_back_11 : decode cX10_back 11 = .ok (.aload_n 0, 1) := by decide +kernel
theorem dX10_back_12 : decode cX10_back 12 = .ok (.iload_n 1, 1) := by decide +kernel
theorem dX10_back_13 : decode cX10_back 13 = .ok (.invokevirtual 269, 3) := by decide +kernel
theorem dX10_back_16 : decode cX10_back 16 = .ok (.getfield 117, 3) := by decide +kernel
theorem dX10_back_19 : decode cX10_back 19 = .ok (.ifCond .ne 6, 3) := by decide +kernel
theorem dX10_back_22 : decode cX10_back 22 = .ok (.bipush (-2), 2) := by decide +kernel
theorem dX10_back_24 : decode cX10_back 24 = .ok (.ireturn, 1) := by decide +kernel
theorem dX10_back_25 : decode cX10_back 25 = .ok (.aload_n 0, 1) := by decide +kernel
theorem dX10_back_26 : decode cX10_back 26 = .ok (.iload_n 1, 1) := by decide +kernel
theorem dX10_back_27 : decode cX10_back 27 = .ok (.invokevirtual 269, 3) := by decide +kernel
theorem dX10_back_30 : decode cX10_back 30 = .ok (.aload_n 0, 1) := by decide +kernel
theorem dX10_back_31 : decode cX10_back 31 = .ok (.getfield 22, 3) := by decide +kernel
theorem dX10_back_34 : decode cX10_back 34 = .ok (.aload_n 0, 1) := by decide +kernel
theorem dX10_back_35 : decode cX10_back 35 = .ok (.getfield 29, 3) := by decide +kernel
theorem dX10_back_38 : decode cX10_back 38 = .ok (.invokevirtual 277, 3) := by decide +kernel
theorem dX10_back_41 : decode cX10_back 41 = .ok (.aload_n 0, 1) := by decide +kernel
theorem dX10_back_42 : decode cX10_back 42 = .ok (.getfield 10, 3) := by decide +kernel
theorem dX10_back_45 : decode cX10_back 45 = .ok (.aload_n 0, 1) := by decide +kernel
theorem dX10_back_46 : decode cX10_back 46 = .ok (.getfield 22, 3) := by decide +kernel
theorem dX10_back_49 : decode cX10_back 49 = .ok (.iconst 0, 1) := by decide +kernel
theorem dX10_back_50 : decode cX10_back 50 = .ok (.invokestatic 225, 3) := by decide +kernel
theorem dX10_back_53 : decode cX10_back 53 = .ok (.ireturn, 1) := by decide +kernel
theorem dX10_count_0 : decode cX10_count 0 = .ok (.iload_n 1, 1) := by decide +kernel
theorem dX10_count_1 : decode cX10_count 1 = .ok (.tableswitch 87 0 5 #[39, 47, 55, 63, 71, 79], 39) := by decide +kernel
theorem dX10_count_40 : decode cX10_count 40 = .ok (.aload_n 0, 1) := by decide +kernel
theorem dX10_count_41 : decode cX10_count 41 = .ok (.getfield 10, 3) := by decide +kernel
theorem dX10_count_44 : decode cX10_count 44 = .ok (.getfield 280, 3) := by decide +kernel
theorem dX10_count_47 : decode cX10_count 47 = .ok (.ireturn, 1) := by decide +kernel
theorem dX10_count_48 : decode cX10_count 48 = .ok (.aload_n 0, 1) := by decide +kernel
theorem dX10_count_49 : decode cX10_count 49 = .ok (.getfield 10, 3) := by decide +kernel
theorem dX10_count_52 : decode cX10_count 52 = .ok (.getfield 203, 3) := by decide +kernel
theorem dX10_count_55 : decode cX10_count 55 = .ok (.ireturn, 1) := by decide +kernel
theorem dX10_count_56 : decode cX10_count 56 = .ok (.aload_n 0, 1) := by decide +kernel
theorem dX10_count_57 : decode cX10_count 57 = .ok (.getfield 10, 3) := by decide +kernel
theorem dX10_count_60 : decode cX10_count 60 = .ok (.getfield 283, 3) := by decide +kernel
theorem dX10_count_63 : decode cX10_count 63 = .ok (.ireturn, 1) := by decide +kernel
theorem dX10_count_64 : decode cX10_count 64 = .ok (.aload_n 0, 1) := by decide +kernel
theorem dX10_count_65 : decode cX10_count 65 = .ok (.getfield 76, 3) := by decide +kernel
theorem dX10_count_68 : decode cX10_count 68 = .ok (.getfield 116, 3) := by decide +kernel
theorem dX10_count_71 : decode cX10_count 71 = .ok (.ireturn, 1) := by decide +kernel
theorem dX10_count_72 : decode cX10_count 72 = .ok (.aload_n 0, 1) := by decide +kernel
theorem dX10_count_73 : decode cX10_count 73 = .ok (.getfield 29, 3) := by decide +kernel
theorem dX10_count_76 : decode cX10_count 76 = .ok (.getfield 113, 3) := by decide +kernel
theorem dX10_count_79 : decode cX10_count 79 = .ok (.ireturn, 1) := by decide +kernel
theorem dX10_count_80 : decode cX10_count 80 = .ok (.aload_n 0, 1) := by decide +kernel
theorem dX10_count_81 : decode cX10_count 81 = .ok (.getfield 46, 3) := by decide +kernel
theorem dX10_count_84 : decode cX10_count 84 = .ok (.getfield 95, 3) := by decide +kernel
theorem dX10_count_87 : decode cX10_count 87 = .ok (.ireturn, 1) := by decide +kernel
theorem dX10_count_88 : decode cX10_count 88 = .ok (.iconst (-1), 1) := by decide +kernel
theorem dX10_count_89 : decode cX10_count 89 = .ok (.ireturn, 1) := by decide +kernel
theorem dX10_trace_0 : decode cX10_trace 0 = .ok (.aload_n 0, 1) := by decide +kernel
theorem dX10_trace_1 : decode cX10_trace 1 = .ok (.getfield 83, 3) := by decide +kernel
theorem dX10_trace_4 : decode cX10_trace 4 = .ok (.getfield 286, 3) := by decide +kernel
theorem dX10_trace_7 : decode cX10_trace 7 = .ok (.lreturn, 1) := by decide +kernel
theorem dX10_imageOf_0 : decode cX10_imageOf 0 = .ok (.iload_n 1, 1) := by decide +kernel
theorem dX10_imageOf_1 : decode cX10_imageOf 1 = .ok (.ifCond .ne 10, 3) := by decide +kernel
theorem dX10_imageOf_4 : decode cX10_imageOf 4 = .ok (.aload_n 0, 1) := by decide +kernel
theorem dX10_imageOf_5 : decode cX10_imageOf 5 = .ok (.getfield 36, 3) := by decide +kernel
theorem dX10_imageOf_8 : decode cX10_imageOf 8 = .ok (.goto 7, 3) := by decide +kernel
theorem dX10_imageOf_11 : decode cX10_imageOf 11 = .ok (.aload_n 0, 1) := by decide +kernel
theorem dX10_imageOf_12 : decode cX10_imageOf 12 = .ok (.getfield 40, 3) := by decide +kernel
theorem dX10_imageOf_15 : decode cX10_imageOf 15 = .ok (.areturn, 1) := by decide +kernel
set_option maxRecDepth 20000 in
theorem ggX10_isNoRaft_X10_isOutside : GoodIn wsX10_isNoRaft wsX10_isOutside := goodIn_r _ [5] (by decide +kernel) (by decide +kernel)
set_option maxRecDepth 20000 in
theorem gX10_isNoRaft_X10_isOutside : GoodIn wsX10_isNoRaft (va_wsS RX10 87 yX10_isOutside wsX10_isOutside) := goodIn_app (goodIn_of _ (by decide +kernel)) ggX10_isNoRaft_X10_isOutside
theorem dX10_isNoRaft_0 : decode cX10_isNoRaft 0 = .ok (.iload_n 1, 1) := by decide +kernel
theorem dX10_isNoRaft_1 : decode cX10_isNoRaft 1 = .ok (.iconst 0, 1) := by decide +kernel
theorem dX10_isNoRaft_2 : decode cX10_isNoRaft 2 = .ok (.aload_n 0, 1) := by decide +kernel
theorem dX10_isNoRaft_3 : decode cX10_isNoRaft 3 = .ok (.getfield 10, 3) := by decide +kernel
theorem dX10_isNoRaft_6 : decode cX10_isNoRaft 6 = .ok (.getfield 280, 3) := by decide +kernel
theorem dX10_isNoRaft_9 : decode cX10_isNoRaft 9 = .ok (.iconst 1, 1) := by decide +kernel
theorem dX10_isNoRaft_10 : decode cX10_isNoRaft 10 = .ok (.isub, 1) := by decide +kernel
theorem dX10_isNoRaft_11 : decode cX10_isNoRaft 11 = .ok (.invokestatic 87, 3) := by decide +kernel
theorem dX10_isNoRaft_14 : decode cX10_isNoRaft 14 = .ok (.ireturn, 1) := by decide +kernel
set_option maxRecDepth 20000 in
theorem ggX10_isNoAnchor_X10_isOutside : GoodIn wsX10_isNoAnchor wsX10_isOutside := goodIn_r _ [5] (by decide +kernel) (by decide +kernel)
set_option maxRecDepth 20000 in
theorem gX10_isNoAnchor_X10_isOutside : GoodIn wsX10_isNoAnchor (va_wsS RX10 87 yX10_isOutside wsX10_isOutside) := goodIn_app (goodIn_of _ (by decide +kernel)) ggX10_isNoAnchor_X10_isOutside
theorem dX10_isNoAnchor_0 : decode cX10_isNoAnchor 0 = .ok (.iload_n 1, 1) := by decide +kernel
theorem dX10_isNoAnchor_1 : decode cX10_isNoAnchor 1 = .ok (.iconst 0, 1) := by decide +kernel
theorem dX10_isNoAnchor_2 : decode cX10_isNoAnchor 2 = .ok (.aload_n 0, 1) := by decide +kernel
theorem dX10_isNoAnchor_3 : decode cX10_isNoAnchor 3 = .ok (.getfield 10, 3) := by decide +kernel
theorem dX10_isNoAnchor_6 : decode cX10_isNoAnchor 6 = .ok (.getfield 203, 3) := by decide +kernel
theorem dX10_isNoAnchor_9 : decode cX10_isNoAnchor 9 = .ok (.iconst 1, 1) := by decide +kernel
theorem dX10_isNoAnchor_10 : decode cX10_isNoAnchor 10 = .ok (.isub, 1) := by decide +kernel
theorem dX10_isNoAnchor_11 : decode cX10_isNoAnchor 11 = .ok (.invokestatic 87, 3) := by decide +kernel
theorem dX10_isNoAnchor_14 : decode cX10_isNoAnchor 14 = .ok (.ireturn, 1) := by decide +kernel
set_option maxRecDepth 20000 in
theorem ggX10_isNoForce_X10_isOutside : GoodIn wsX10_isNoForce wsX10_isOutside := goodIn_r _ [4] (by decide +kernel) (by decide +kernel)
set_option maxRecDepth 20000 in
theorem gX10_isNoForce_X10_isOutside : GoodIn wsX10_isNoForce (va_wsS RX10 87 yX10_isOutside wsX10_isOutside) := goodIn_app (goodIn_of _ (by decide +kernel)) ggX10_isNoForce_X10_isOutside
theorem dX10_isNoForce_0 : decode cX10_isNoForce 0 = .ok (.iload_n 0, 1) := by decide +kernel
theorem dX10_isNoForce_1 : decode cX10_isNoForce 1 = .ok (.iconst 1, 1) := by decide +kernel
theorem dX10_isNoForce_2 : decode cX10_isNoForce 2 = .ok (.bipush 99, 2) := by decide +kernel
theorem dX10_isNoForce_4 : decode cX10_isNoForce 4 = .ok (.invokestatic 87, 3) := by decide +kernel
theorem dX10_isNoForce_7 : decode cX10_isNoForce 7 = .ok (.ireturn, 1) := by decide +kernel
theorem dX10_isOutside_0 : decode cX10_isOutside 0 = .ok (.iload_n 0, 1) := by decide +kernel
theorem dX10_isOutside_1 : decode cX10_isOutside 1 = .ok (.iload_n 1, 1) := by decide +kernel
theorem dX10_isOutside_2 : decode cX10_isOutside 2 = .ok (.if_icmp .lt 8, 3) := by decide +kernel
theorem dX10_isOutside_5 : decode cX10_isOutside 5 = .ok (.iload_n 0, 1) := by decide +kernel
theorem dX10_isOutside_6 : decode cX10_isOutside 6 = .ok (.iload_n 2, 1) := by decide +kernel
theorem dX10_isOutside_7 : decode cX10_isOutside 7 = .ok (.if_icmp .le 7, 3) := by decide +kernel
theorem dX10_isOutside_10 : decode cX10_isOutside 10 = .ok (.iconst 1, 1) := by decide +kernel
theorem dX10_isOutside_11 : decode cX10_isOutside 11 = .ok (.goto 4, 3) := by decide +kernel
theorem dX10_isOutside_14 : decode cX10_isOutside 14 = .ok (.iconst 0, 1) := by decide +kernel
theorem dX10_isOutside_15 : decode cX10_isOutside 15 = .ok (.ireturn, 1) := by decide +kernel
theorem dX10_at_0 : decode cX10_at 0 = .ok (.aload_n 0, 1) := by decide +kernel
theorem dX10_at_1 : decode cX10_at 1 = .ok (.ifnull 19, 3) := by decide +kernel
theorem dX10_at_4 : decode cX10_at 4 = .ok (.iload_n 1, 1) := by decide +kernel
theorem dX10_at_5 : decode cX10_at 5 = .ok (.ifCond .lt 15, 3) := by decide +kernel
theorem dX10_at_8 : decode cX10_at 8 = .ok (.iload_n 1, 1) := by decide +kernel
theorem dX10_at_9 : decode cX10_at 9 = .ok (.aload_n 0, 1) := by decide +kernel
theorem dX10_at_10 : decode cX10_at 10 = .ok (.arraylength, 1) := by decide +kernel
theorem dX10_at_11 : decode cX10_at 11 = .ok (.if_icmp .ge 9, 3) := by decide +kernel
theorem dX10_at_14 : decode cX10_at 14 = .ok (.aload_n 0, 1) := by decide +kernel
theorem dX10_at_15 : decode cX10_at 15 = .ok (.iload_n 1, 1) := by decide +kernel
theorem dX10_at_16 : decode cX10_at 16 = .ok (.iaload, 1) := by decide +kernel
theorem dX10_at_17 : decode cX10_at 17 = .ok (.goto 4, 3) := by decide +kernel
theorem dX10_at_20 : decode cX10_at 20 = .ok (.iconst 0, 1) := by decide +kernel
theorem dX10_at_21 : decode cX10_at 21 = .ok (.ireturn, 1) := by decide +kernel
theorem dX10_put_0 : decode cX10_put 0 = .ok (.aload_n 0, 1) := by decide +kernel
theorem dX10_put_1 : decode cX10_put 1 = .ok (.ifnull 17, 3) := by decide +kernel
theorem dX10_put_4 : decode cX10_put 4 = .ok (.iload_n 1, 1) := by decide +kernel
theorem dX10_put_5 : decode cX10_put 5 = .ok (.ifCond .lt 13, 3) := by decide +kernel
theorem dX10_put_8 : decode cX10_put 8 = .ok (.iload_n 1, 1) := by decide +kernel
theorem dX10_put_9 : decode cX10_put 9 = .ok (.aload_n 0, 1) := by decide +kernel
theorem dX10_put_10 : decode cX10_put 10 = .ok (.arraylength, 1) := by decide +kernel
theorem dX10_put_11 : decode cX10_put 11 = .ok (.if_icmp .ge 7, 3) := by decide +kernel
theorem dX10_put_14 : decode cX10_put 14 = .ok (.aload_n 0, 1) := by decide +kernel
theorem dX10_put_15 : decode cX10_put 15 = .ok (.iload_n 1, 1) := by decide +kernel
theorem dX10_put_16 : decode cX10_put 16 = .ok (.iload_n 2, 1) := by decide +kernel
theorem dX10_put_17 : decode cX10_put 17 = .ok (.iastore, 1) := by decide +kernel
theorem dX10_put_18 : decode cX10_put 18 = .ok (.return_, 1) := by decide +kernel
theorem dX10_fill_0 : decode cX10_fill 0 = .ok (.aload_n 0, 1) := by decide +kernel
theorem dX10_fill_1 : decode cX10_fill 1 = .ok (.ifnull 21, 3) := by decide +kernel
theorem dX10_fill_4 : decode cX10_fill 4 = .ok (.iconst 0, 1) := by decide +kernel
theorem dX10_fill_5 : decode cX10_fill 5 = .ok (.istore_n 2, 1) := by decide +kernel
theorem dX10_fill_6 : decode cX10_fill 6 = .ok (.iload_n 2, 1) := by decide +kernel
theorem dX10_fill_7 : decode cX10_fill 7 = .ok (.aload_n 0, 1) := by decide +kernel
theorem dX10_fill_8 : decode cX10_fill 8 = .ok (.arraylength, 1) := by decide +kernel
theorem dX10_fill_9 : decode cX10_fill 9 = .ok (.if_icmp .ge 13, 3) := by decide +kernel
theorem dX10_fill_12 : decode cX10_fill 12 = .ok (.aload_n 0, 1) := by decide +kernel
theorem dX10_fill_13 : decode cX10_fill 13 = .ok (.iload_n 2, 1) := by decide +kernel
theorem dX10_fill_14 : decode cX10_fill 14 = .ok (.iload_n 1, 1) := by decide +kernel
theorem dX10_fill_15 : decode cX10_fill 15 = .ok (.iastore, 1) := by decide +kernel
theorem dX10_fill_16 : decode cX10_fill 16 = .ok (.iinc 2 1, 3) := by decide +kernel
theorem dX10_fill_19 : decode cX10_fill 19 = .ok (.goto (-13), 3) := by decide +kernel
theorem dX10_fill_22 : decode cX10_fill 22 = .ok (.return_, 1) := by decide +kernel
theorem dX10_copy_0 : decode cX10_copy 0 = .ok (.aload_n 0, 1) := by decide +kernel
theorem dX10_copy_1 : decode cX10_copy 1 = .ok (.ifnull 20, 3) := by decide +kernel
theorem dX10_copy_4 : decode cX10_copy 4 = .ok (.aload_n 2, 1) := by decide +kernel
theorem dX10_copy_5 : decode cX10_copy 5 = .ok (.ifnull 16, 3) := by decide +kernel
theorem dX10_copy_8 : decode cX10_copy 8 = .ok (.iload 4, 2) := by decide +kernel
theorem dX10_copy_10 : decode cX10_copy 10 = .ok (.ifCond .lt 11, 3) := by decide +kernel
theorem dX10_copy_13 : decode cX10_copy 13 = .ok (.iload_n 1, 1) := by decide +kernel
theorem dX10_copy_14 : decode cX10_copy 14 = .ok (.ifCond .lt 7, 3) := by decide +kernel
theorem dX10_copy_17 : decode cX10_copy 17 = .ok (.iload_n 3, 1) := by decide +kernel
theorem dX10_copy_18 : decode cX10_copy 18 = .ok (.ifCond .ge 4, 3) := by decide +kernel
theorem dX10_copy_21 : decode cX10_copy 21 = .ok (.return_, 1) := by decide +kernel
theorem dX10_copy_22 : decode cX10_copy 22 = .ok (.iload_n 1, 1) := by decide +kernel
theorem dX10_copy_23 : decode cX10_copy 23 = .ok (.aload_n 0, 1) := by decide +kernel
theorem dX10_copy_24 : decode cX10_copy 24 = .ok (.arraylength, 1) := by decide +kernel
theorem dX10_copy_25 : decode cX10_copy 25 = .ok (.iload 4, 2) := by decide +kernel
theorem dX10_copy_27 : decode cX10_copy 27 = .ok (.isub, 1) := by decide +kernel
theorem dX10_copy_28 : decode cX10_copy 28 = .ok (.if_icmp .gt 21, 3) := by decide +kernel
theorem dX10_copy_31 : decode cX10_copy 31 = .ok (.iload_n 3, 1) := by decide +kernel
theorem dX10_copy_32 : decode cX10_copy 32 = .ok (.aload_n 2, 1) := by decide +kernel
theorem dX10_copy_33 : decode cX10_copy 33 = .ok (.arraylength, 1) := by decide +kernel
theorem dX10_copy_34 : decode cX10_copy 34 = .ok (.iload 4, 2) := by decide +kernel
theorem dX10_copy_36 : decode cX10_copy 36 = .ok (.isub, 1) := by decide +kernel
theorem dX10_copy_37 : decode cX10_copy 37 = .ok (.if_icmp .gt 12, 3) := by decide +kernel
theorem dX10_copy_40 : decode cX10_copy 40 = .ok (.aload_n 0, 1) := by decide +kernel
theorem dX10_copy_41 : decode cX10_copy 41 = .ok (.iload_n 1, 1) := by decide +kernel
theorem dX10_copy_42 : decode cX10_copy 42 = .ok (.aload_n 2, 1) := by decide +kernel
theorem dX10_copy_43 : decode cX10_copy 43 = .ok (.iload_n 3, 1) := by decide +kernel
theorem dX10_copy_44 : decode cX10_copy 44 = .ok (.iload 4, 2) := by decide +kernel
theorem dX10_copy_46 : decode cX10_copy 46 = .ok (.invokestatic 290, 3) := by decide +kernel
theorem dX10_copy_49 : decode cX10_copy 49 = .ok (.return_, 1) := by decide +kernel
theorem dX10_bit_0 : decode cX10_bit 0 = .ok (.iload_n 0, 1) := by decide +kernel
theorem dX10_bit_1 : decode cX10_bit 1 = .ok (.ifCond .lt 15, 3) := by decide +kernel
theorem dX10_bit_4 : decode cX10_bit 4 = .ok (.iload_n 0, 1) := by decide +kernel
theorem dX10_bit_5 : decode cX10_bit 5 = .ok (.bipush 31, 2) := by decide +kernel
theorem dX10_bit_7 : decode cX10_bit 7 = .ok (.if_icmp .ge 9, 3) := by decide +kernel
theorem dX10_bit_10 : decode cX10_bit 10 = .ok (.iconst 1, 1) := by decide +kernel
theorem dX10_bit_11 : decode cX10_bit 11 = .ok (.iload_n 0, 1) := by decide +kernel
theorem dX10_bit_12 : decode cX10_bit 12 = .ok (.ishl, 1) := by decide +kernel
theorem dX10_bit_13 : decode cX10_bit 13 = .ok (.goto 4, 3) := by decide +kernel
theorem dX10_bit_16 : decode cX10_bit 16 = .ok (.iconst 0, 1) := by decide +kernel
theorem dX10_bit_17 : decode cX10_bit 17 = .ok (.ireturn, 1) := by decide +kernel
set_option maxRecDepth 20000 in
theorem ggX10_has_X10_bit : GoodIn wsX10_has wsX10_bit := goodIn_r _ [4] (by decide +kernel) (by decide +kernel)
set_option maxRecDepth 20000 in
theorem gX10_has_X10_bit : GoodIn wsX10_has (va_wsS RX10 195 yX10_bit wsX10_bit) := goodIn_app (goodIn_of _ (by decide +kernel)) ggX10_has_X10_bit
theorem dX10_has_0 : decode cX10_has 0 = .ok (.iload_n 0, 1) := by decide +kernel
theorem dX10_has_1 : decode cX10_has 1 = .ok (.iload_n 1, 1) := by decide +kernel
theorem dX10_has_2 : decode cX10_has 2 = .ok (.invokestatic 195, 3) := by decide +kernel
theorem dX10_has_5 : decode cX10_has 5 = .ok (.iand, 1) := by decide +kernel
theorem dX10_has_6 : decode cX10_has 6 = .ok (.ifCond .eq 7, 3) := by decide +kernel
theorem dX10_has_9 : decode cX10_has 9 = .ok (.iconst 1, 1) := by decide +kernel
theorem dX10_has_10 : decode cX10_has 10 = .ok (.goto 4, 3) := by decide +kernel
theorem dX10_has_13 : decode cX10_has 13 = .ok (.iconst 0, 1) := by decide +kernel
theorem dX10_has_14 : decode cX10_has 14 = .ok (.ireturn, 1) := by decide +kernel
theorem dX10_divided_0 : decode cX10_divided 0 = .ok (.iload_n 1, 1) := by decide +kernel
theorem dX10_divided_1 : decode cX10_divided 1 = .ok (.ifCond .le 9, 3) := by decide +kernel
theorem dX10_divided_4 : decode cX10_divided 4 = .ok (.iload_n 0, 1) := by decide +kernel
theorem dX10_divided_5 : decode cX10_divided 5 = .ok (.iload_n 1, 1) := by decide +kernel
theorem dX10_divided_6 : decode cX10_divided 6 = .ok (.idiv, 1) := by decide +kernel
theorem dX10_divided_7 : decode cX10_divided 7 = .ok (.goto 4, 3) := by decide +kernel
theorem dX10_divided_10 : decode cX10_divided 10 = .ok (.iconst 0, 1) := by decide +kernel
theorem dX10_divided_11 : decode cX10_divided 11 = .ok (.ireturn, 1) := by decide +kernel
theorem dX10_commonPart_0 : decode cX10_commonPart 0 = .ok (.iload_n 0, 1) := by decide +kernel
theorem dX10_commonPart_1 : decode cX10_commonPart 1 = .ok (.iload_n 1, 1) := by decide +kernel
theorem dX10_commonPart_2 : decode cX10_commonPart 2 = .ok (.invokestatic 296, 3) := by decide +kernel
theorem dX10_commonPart_5 : decode cX10_commonPart 5 = .ok (.istore_n 2, 1) := by decide +kernel
theorem dX10_commonPart_6 : decode cX10_commonPart 6 = .ok (.iload_n 0, 1) := by decide +kernel
theorem dX10_commonPart_7 : decode cX10_commonPart 7 = .ok (.iload_n 1, 1) := by decide +kernel
theorem dX10_commonPart_8 : decode cX10_commonPart 8 = .ok (.invokestatic 206, 3) := by decide +kernel
theorem dX10_commonPart_11 : decode cX10_commonPart 11 = .ok (.istore_n 3, 1) := by decide +kernel
theorem dX10_commonPart_12 : decode cX10_commonPart 12 = .ok (.iconst 0, 1) := by decide +kernel
theorem dX10_commonPart_13 : decode cX10_commonPart 13 = .ok (.istore 4, 2) := by decide +kernel
theorem dX10_commonPart_15 : decode cX10_commonPart 15 = .ok (.iload 4, 2) := by decide +kernel
theorem dX10_commonPart_17 : decode cX10_commonPart 17 = .ok (.bipush 99, 2) := by decide +kernel
theorem dX10_commonPart_19 : decode cX10_commonPart 19 = .ok (.if_icmp .ge 23, 3) := by decide +kernel
theorem dX10_commonPart_22 : decode cX10_commonPart 22 = .ok (.iload_n 3, 1) := by decide +kernel
theorem dX10_commonPart_23 : decode cX10_commonPart 23 = .ok (.ifCond .le 19, 3) := by decide +kernel
theorem dX10_commonPart_26 : decode cX10_commonPart 26 = .ok (.iload_n 2, 1) := by decide +kernel
theorem dX10_commonPart_27 : decode cX10_commonPart 27 = .ok (.iload_n 3, 1) := by decide +kernel
theorem dX10_commonPart_28 : decode cX10_commonPart 28 = .ok (.irem, 1) := by decide +kernel
theorem dX10_commonPart_29 : decode cX10_commonPart 29 = .ok (.istore 5, 2) := by decide +kernel
theorem dX10_commonPart_31 : decode cX10_commonPart 31 = .ok (.iload_n 3, 1) := by decide +kernel
theorem dX10_commonPart_32 : decode cX10_commonPart 32 = .ok (.istore_n 2, 1) := by decide +kernel
theorem dX10_commonPart_33 : decode cX10_commonPart 33 = .ok (.iload 5, 2) := by decide +kernel
theorem dX10_commonPart_35 : decode cX10_commonPart 35 = .ok (.istore_n 3, 1) := by decide +kernel
theorem dX10_commonPart_36 : decode cX10_commonPart 36 = .ok (.iinc 4 1, 3) := by decide +kernel
theorem dX10_commonPart_39 : decode cX10_commonPart 39 = .ok (.goto (-24), 3) := by decide +kernel
theorem dX10_commonPart_42 : decode cX10_commonPart 42 = .ok (.iload_n 2, 1) := by decide +kernel
theorem dX10_commonPart_43 : decode cX10_commonPart 43 = .ok (.ireturn, 1) := by decide +kernel
theorem dX10_power_0 : decode cX10_power 0 = .ok (.iconst 1, 1) := by decide +kernel
theorem dX10_power_1 : decode cX10_power 1 = .ok (.istore_n 2, 1) := by decide +kernel
theorem dX10_power_2 : decode cX10_power 2 = .ok (.iconst 0, 1) := by decide +kernel
theorem dX10_power_3 : decode cX10_power 3 = .ok (.istore_n 3, 1) := by decide +kernel
theorem dX10_power_4 : decode cX10_power 4 = .ok (.iload_n 3, 1) := by decide +kernel
theorem dX10_power_5 : decode cX10_power 5 = .ok (.iload_n 1, 1) := by decide +kernel
theorem dX10_power_6 : decode cX10_power 6 = .ok (.if_icmp .ge 13, 3) := by decide +kernel
theorem dX10_power_9 : decode cX10_power 9 = .ok (.iload_n 2, 1) := by decide +kernel
theorem dX10_power_10 : decode cX10_power 10 = .ok (.iload_n 0, 1) := by decide +kernel
theorem dX10_power_11 : decode cX10_power 11 = .ok (.imul, 1) := by decide +kernel
theorem dX10_power_12 : decode cX10_power 12 = .ok (.istore_n 2, 1) := by decide +kernel
theorem dX10_power_13 : decode cX10_power 13 = .ok (.iinc 3 1, 3) := by decide +kernel
theorem dX10_power_16 : decode cX10_power 16 = .ok (.goto (-12), 3) := by decide +kernel
theorem dX10_power_19 : decode cX10_power 19 = .ok (.iload_n 2, 1) := by decide +kernel
theorem dX10_power_20 : decode cX10_power 20 = .ok (.ireturn, 1) := by decide +kernel
set_option maxRecDepth 20000 in
theorem ggX10_thoseThatAre_X5_get : GoodIn wsX10_thoseThatAre wsX5_get := goodIn_r _ [4, 5, 6, 7, 8, 22] (by decide +kernel) (by decide +kernel)
set_option maxRecDepth 20000 in
theorem gX10_thoseThatAre_X5_get_n139 : GoodIn wsX10_thoseThatAre (wsX5_get) := ggX10_thoseThatAre_X5_get
set_option maxRecDepth 20000 in
theorem ggX10_thoseThatAre_X10_bit : GoodIn wsX10_thoseThatAre wsX10_bit := goodIn_r _ [11] (by decide +kernel) (by decide +kernel)
set_option maxRecDepth 20000 in
theorem gX10_thoseThatAre_X10_bit : GoodIn wsX10_thoseThatAre (va_wsS RX10 195 yX10_bit wsX10_bit) := goodIn_app (goodIn_of _ (by decide +kernel)) ggX10_thoseThatAre_X10_bit
theorem dX10_thoseThatAre_0 : decode cX10_thoseThatAre 0 = .ok (.iconst 0, 1) := by decide +kernel
theorem dX10_thoseThatAre_1 : decode cX10_thoseThatAre 1 = .ok (.istore_n 3, 1) := by decide +kernel
theorem dX10_thoseThatAre_2 : decode cX10_thoseThatAre 2 = .ok (.iconst 0, 1) := by decide +kernel
theorem dX10_thoseThatAre_3 : decode cX10_thoseThatAre 3 = .ok (.istore 4, 2) := by decide +kernel
theorem dX10_thoseThatAre_5 : decode cX10_thoseThatAre 5 = .ok (.iload 4, 2) := by decide +kernel
theorem dX10_thoseThatAre_7 : decode cX10_thoseThatAre 7 = .ok (.aload_n 0, 1) := by decide +kernel
theorem dX10_thoseThatAre_8 : decode cX10_thoseThatAre 8 = .ok (.getfield 203, 3) := by decide +kernel
theorem dX10_thoseThatAre_11 : decode cX10_thoseThatAre 11 = .ok (.if_icmp .ge 29, 3) := by decide +kernel
theorem dX10_thoseThatAre_14 : decode cX10_thoseThatAre 14 = .ok (.aload_n 1, 1) := by decide +kernel
theorem dX10_thoseThatAre_15 : decode cX10_thoseThatAre 15 = .ok (.bipush 24, 2) := by decide +kernel
theorem dX10_thoseThatAre_17 : decode cX10_thoseThatAre 17 = .ok (.iload 4, 2) := by decide +kernel
theorem dX10_thoseThatAre_19 : decode cX10_thoseThatAre 19 = .ok (.invokevirtual 139, 3) := by decide +kernel
theorem dX10_thoseThatAre_22 : decode cX10_thoseThatAre 22 = .ok (.iload_n 2, 1) := by decide +kernel
theorem dX10_thoseThatAre_23 : decode cX10_thoseThatAre 23 = .ok (.if_icmp .ne 11, 3) := by decide +kernel
theorem dX10_thoseThatAre_26 : decode cX10_thoseThatAre 26 = .ok (.iload_n 3, 1) := by decide +kernel
theorem dX10_thoseThatAre_27 : decode cX10_thoseThatAre 27 = .ok (.iload 4, 2) := by decide +kernel
theorem dX10_thoseThatAre_29 : decode cX10_thoseThatAre 29 = .ok (.invokestatic 195, 3) := by decide +kernel
theorem dX10_thoseThatAre_32 : decode cX10_thoseThatAre 32 = .ok (.ior, 1) := by decide +kernel
theorem dX10_thoseThatAre_33 : decode cX10_thoseThatAre 33 = .ok (.istore_n 3, 1) := by decide +kernel
theorem dX10_thoseThatAre_34 : decode cX10_thoseThatAre 34 = .ok (.iinc 4 1, 3) := by decide +kernel
theorem dX10_thoseThatAre_37 : decode cX10_thoseThatAre 37 = .ok (.goto (-32), 3) := by decide +kernel
theorem dX10_thoseThatAre_40 : decode cX10_thoseThatAre 40 = .ok (.iload_n 3, 1) := by decide +kernel
theorem dX10_thoseThatAre_41 : decode cX10_thoseThatAre 41 = .ok (.ireturn, 1) := by decide +kernel
set_option maxRecDepth 20000 in
theorem ggX10_lyingIn_X5_lies : GoodIn wsX10_lyingIn wsX5_lies := goodIn_r _ [4, 5, 6, 7, 2, 8, 9, 10, 11, 12, 26] (by decide +kernel) (by decide +kernel)
set_option maxRecDepth 20000 in
theorem gX10_lyingIn_X5_lies_n168 : GoodIn wsX10_lyingIn (wsX5_lies) := ggX10_lyingIn_X5_lies
set_option maxRecDepth 20000 in
theorem ggX10_lyingIn_X5_get : GoodIn wsX10_lyingIn wsX5_get := goodIn_r _ [8, 9, 10, 11, 12, 26] (by decide +kernel) (by decide +kernel)
set_option maxRecDepth 20000 in
theorem gX10_lyingIn_X5_get_n139 : GoodIn wsX10_lyingIn (wsX5_get) := ggX10_lyingIn_X5_get
set_option maxRecDepth 20000 in
theorem ggX10_lyingIn_X10_bit : GoodIn wsX10_lyingIn wsX10_bit := goodIn_r _ [15] (by decide +kernel) (by decide +kernel)
set_option maxRecDepth 20000 in
theorem gX10_lyingIn_X10_bit : GoodIn wsX10_lyingIn (va_wsS RX10 195 yX10_bit wsX10_bit) := goodIn_app (goodIn_of _ (by decide +kernel)) ggX10_lyingIn_X10_bit
theorem dX10_lyingIn_0 : decode cX10_lyingIn 0 = .ok (.iconst 0, 1) := by decide +kernel
theorem dX10_lyingIn_1 : decode cX10_lyingIn 1 = .ok (.istore_n 3, 1) := by decide +kernel
theorem dX10_lyingIn_2 : decode cX10_lyingIn 2 = .ok (.iconst 0, 1) := by decide +kernel
theorem dX10_lyingIn_3 : decode cX10_lyingIn 3 = .ok (.istore 4, 2) := by decide +kernel
theorem dX10_lyingIn_5 : decode cX10_lyingIn 5 = .ok (.iload 4, 2) := by decide +kernel
theorem dX10_lyingIn_7 : decode cX10_lyingIn 7 = .ok (.aload_n 0, 1) := by decide +kernel
theorem dX10_lyingIn_8 : decode cX10_lyingIn 8 = .ok (.getfield 203, 3) := by decide +kernel
theorem dX10_lyingIn_11 : decode cX10_lyingIn 11 = .ok (.if_icmp .ge 37, 3) := by decide +kernel
theorem dX10_lyingIn_14 : decode cX10_lyingIn 14 = .ok (.aload_n 1, 1) := by decide +kernel
theorem dX10_lyingIn_15 : decode cX10_lyingIn 15 = .ok (.iload 4, 2) := by decide +kernel
theorem dX10_lyingIn_17 : decode cX10_lyingIn 17 = .ok (.invokevirtual 168, 3) := by decide +kernel
theorem dX10_lyingIn_20 : decode cX10_lyingIn 20 = .ok (.ifCond .eq 22, 3) := by decide +kernel
theorem dX10_lyingIn_23 : decode cX10_lyingIn 23 = .ok (.aload_n 1, 1) := by decide +kernel
theorem dX10_lyingIn_24 : decode cX10_lyingIn 24 = .ok (.iconst 0, 1) := by decide +kernel
theorem dX10_lyingIn_25 : decode cX10_lyingIn 25 = .ok (.iload 4, 2) := by decide +kernel
theorem dX10_lyingIn_27 : decode cX10_lyingIn 27 = .ok (.invokevirtual 139, 3) := by decide +kernel
theorem dX10_lyingIn_30 : decode cX10_lyingIn 30 = .ok (.iload_n 2, 1) := by decide +kernel
theorem dX10_lyingIn_31 : decode cX10_lyingIn 31 = .ok (.if_icmp .ne 11, 3) := by decide +kernel
theorem dX10_lyingIn_34 : decode cX10_lyingIn 34 = .ok (.iload_n 3, 1) := by decide +kernel
theorem dX10_lyingIn_35 : decode cX10_lyingIn 35 = .ok (.iload 4, 2) := by decide +kernel
theorem dX10_lyingIn_37 : decode cX10_lyingIn 37 = .ok (.invokestatic 195, 3) := by decide +kernel
theorem dX10_lyingIn_40 : decode cX10_lyingIn 40 = .ok (.ior, 1) := by decide +kernel
theorem dX10_lyingIn_41 : decode cX10_lyingIn 41 = .ok (.istore_n 3, 1) := by decide +kernel
theorem dX10_lyingIn_42 : decode cX10_lyingIn 42 = .ok (.iinc 4 1, 3) := by decide +kernel
theorem dX10_lyingIn_45 : decode cX10_lyingIn 45 = .ok (.goto (-40), 3) := by decide +kernel
theorem dX10_lyingIn_48 : decode cX10_lyingIn 48 = .ok (.iload_n 3, 1) := by decide +kernel
theorem dX10_lyingIn_49 : decode cX10_lyingIn 49 = .ok (.ireturn, 1) := by decide +kernel
theorem dX11_init_0 : decode cX11_init 0 = .ok (.aload_n 0, 1) := by decide +kernel
theorem dX11_init_1 : decode cX11_init 1 = .ok (.invokespecial 1, 3) := by decide +kernel
theorem dX11_init_4 : decode cX11_init 4 = .ok (.aload_n 0, 1) := by decide +kernel
theorem dX11_init_5 : decode cX11_init 5 = .ok (.sipush 200, 3) := by decide +kernel
theorem dX11_init_8 : decode cX11_init 8 = .ok (.newarray .byte, 2) := by decide +kernel
theorem dX11_init_10 : decode cX11_init 10 = .ok (.putfield 7, 3) := by decide +kernel
theorem dX11_init_13 : decode cX11_init 13 = .ok (.aload_n 0, 1) := by decide +kernel
theorem dX11_init_14 : decode cX11_init 14 = .ok (.bipush 20, 2) := by decide +kernel
theorem dX11_init_16 : decode cX11_init 16 = .ok (.newarray .int, 2) := by decide +kernel
theorem dX11_init_18 : decode cX11_init 18 = .ok (.putfield 13, 3) := by decide +kernel
theorem dX11_init_21 : decode cX11_init 21 = .ok (.aload_n 0, 1) := by decide +kernel
theorem dX11_init_22 : decode cX11_init 22 = .ok (.bipush 20, 2) := by decide +kernel
theorem dX11_init_24 : decode cX11_init 24 = .ok (.newarray .int, 2) := by decide +kernel
theorem dX11_init_26 : decode cX11_init 26 = .ok (.putfield 17, 3) := by decide +kernel
theorem dX11_init_29 : decode cX11_init 29 = .ok (.aload_n 0, 1) := by decide +kernel
theorem dX11_init_30 : decode cX11_init 30 = .ok (.iconst 2, 1) := by decide +kernel
theorem dX11_init_31 : decode cX11_init 31 = .ok (.newarray .int, 2) := by decide +kernel
theorem dX11_init_33 : decode cX11_init 33 = .ok (.putfield 20, 3) := by decide +kernel
theorem dX11_init_36 : decode cX11_init 36 = .ok (.aload_n 0, 1) := by decide +kernel
theorem dX11_init_37 : decode cX11_init 37 = .ok (.bipush 12, 2) := by decide +kernel
theorem dX11_init_39 : decode cX11_init 39 = .ok (.newarray .int, 2) := by decide +kernel
theorem dX11_init_41 : decode cX11_init 41 = .ok (.putfield 23, 3) := by decide +kernel
theorem dX11_init_44 : decode cX11_init 44 = .ok (.aload_n 0, 1) := by decide +kernel
theorem dX11_init_45 : decode cX11_init 45 = .ok (.bipush 12, 2) := by decide +kernel
theorem dX11_init_47 : decode cX11_init 47 = .ok (.newarray .int, 2) := by decide +kernel
theorem dX11_init_49 : decode cX11_init 49 = .ok (.putfield 26, 3) := by decide +kernel
theorem dX11_init_52 : decode cX11_init 52 = .ok (.aload_n 0, 1) := by decide +kernel
theorem dX11_init_53 : decode cX11_init 53 = .ok (.iconst 2, 1) := by decide +kernel
theorem dX11_init_54 : decode cX11_init 54 = .ok (.newarray .int, 2) := by decide +kernel
theorem dX11_init_56 : decode cX11_init 56 = .ok (.putfield 29, 3) := by decide +kernel
theorem dX11_init_59 : decode cX11_init 59 = .ok (.aload_n 0, 1) := by decide +kernel
theorem dX11_init_60 : decode cX11_init 60 = .ok (.bipush 16, 2) := by decide +kernel
theorem dX11_init_62 : decode cX11_init 62 = .ok (.newarray .int, 2) := by decide +kernel
theorem dX11_init_64 : decode cX11_init 64 = .ok (.putfield 32, 3) := by decide +kernel
theorem dX11_init_67 : decode cX11_init 67 = .ok (.aload_n 0, 1) := by decide +kernel
theorem dX11_init_68 : decode cX11_init 68 = .ok (.bipush 16, 2) := by decide +kernel
theorem dX11_init_70 : decode cX11_init 70 = .ok (.newarray .int, 2) := by decide +kernel
theorem dX11_init_72 : decode cX11_init 72 = .ok (.putfield 35, 3) := by decide +kernel
theorem dX11_init_75 : decode cX11_init 75 = .ok (.aload_n 0, 1) := by decide +kernel
theorem dX11_init_76 : decode cX11_init 76 = .ok (.bipush 16, 2) := by decide +kernel
theorem dX11_init_78 : decode cX11_init 78 = .ok (.newarray .int, 2) := by decide +kernel
theorem dX11_init_80 : decode cX11_init 80 = .ok (.putfield 38, 3) := by decide +kernel
theorem dX11_init_83 : decode cX11_init 83 = .ok (.aload_n 0, 1) := by decide +kernel
theorem dX11_init_84 : decode cX11_init 84 = .ok (.bipush 16, 2) := by decide +kernel
theorem dX11_init_86 : decode cX11_init 86 = .ok (.newarray .int, 2) := by decide +kernel
theorem dX11_init_88 : decode cX11_init 88 = .ok (.putfield 41, 3) := by decide +kernel
theorem dX11_init_91 : decode cX11_init 91 = .ok (.aload_n 0, 1) := by decide +kernel
theorem dX11_init_92 : decode cX11_init 92 = .ok (.bipush 16, 2) := by decide +kernel
theorem dX11_init_94 : decode cX11_init 94 = .ok (.newarray .int, 2) := by decide +kernel
theorem dX11_init_96 : decode cX11_init 96 = .ok (.putfield 44, 3) := by decide +kernel
theorem dX11_init_99 : decode cX11_init 99 = .ok (.aload_n 0, 1) := by decide +kernel
theorem dX11_init_100 : decode cX11_init 100 = .ok (.bipush 45, 2) := by decide +kernel
theorem dX11_init_102 : decode cX11_init 102 = .ok (.newarray .int, 2) := by decide +kernel
theorem dX11_init_104 : decode cX11_init 104 = .ok (.putfield 47, 3) := by decide +kernel
theorem dX11_init_107 : decode cX11_init 107 = .ok (.aload_n 0, 1) := by decide +kernel
theorem dX11_init_108 : decode cX11_init 108 = .ok (.iconst 3, 1) := by decide +kernel
theorem dX11_init_109 : decode cX11_init 109 = .ok (.newarray .int, 2) := by decide +kernel
theorem dX11_init_111 : decode cX11_init 111 = .ok (.putfield 50, 3) := by decide +kernel
theorem dX11_init_114 : decode cX11_init 114 = .ok (.aload_n 0, 1) := by decide +kernel
theorem dX11_init_115 : decode cX11_init 115 = .ok (.sipush 1350, 3) := by decide +kernel
theorem dX11_init_118 : decode cX11_init 118 = .ok (.newarray .int, 2) := by decide +kernel
theorem dX11_init_120 : decode cX11_init 120 = .ok (.putfield 53, 3) := by decide +kernel
theorem dX11_init_123 : decode cX11_init 123 = .ok (.aload_n 0, 1) := by decide +kernel
theorem dX11_init_124 : decode cX11_init 124 = .ok (.bipush 90, 2) := by decide +kernel
theorem dX11_init_126 : decode cX11_init 126 = .ok (.newarray .int, 2) := by decide +kernel
theorem dX11_init_128 : decode cX11_init 128 = .ok (.putfield 56, 3) := by decide +kernel
theorem dX11_init_131 : decode cX11_init 131 = .ok (.aload_n 0, 1) := by decide +kernel
theorem dX11_init_132 : decode cX11_init 132 = .ok (.iconst 2, 1) := by decide +kernel
theorem dX11_init_133 : decode cX11_init 133 = .ok (.newarray .boolean, 2) := by decide +kernel
theorem dX11_init_135 : decode cX11_init 135 = .ok (.putfield 59, 3) := by decide +kernel
theorem dX11_init_138 : decode cX11_init 138 = .ok (.aload_n 0, 1) := by decide +kernel
theorem dX11_init_139 : decode cX11_init 139 = .ok (.bipush 45, 2) := by decide +kernel
theorem dX11_init_141 : decode cX11_init 141 = .ok (.newarray .int, 2) := by decide +kernel
theorem dX11_init_143 : decode cX11_init 143 = .ok (.putfield 63, 3) := by decide +kernel
theorem dX11_init_146 : decode cX11_init 146 = .ok (.aload_n 0, 1) := by decide +kernel
theorem dX11_init_147 : decode cX11_init 147 = .ok (.sipush 9216, 3) := by decide +kernel
theorem dX11_init_150 : decode cX11_init 150 = .ok (.newarray .boolean, 2) := by decide +kernel
theorem dX11_init_152 : decode cX11_init 152 = .ok (.putfield 66, 3) := by decide +kernel
theorem dX11_init_155 : decode cX11_init 155 = .ok (.aload_n 0, 1) := by decide +kernel
theorem dX11_init_156 : decode cX11_init 156 = .ok (.bipush 6, 2) := by decide +kernel
theorem dX11_init_158 : decode cX11_init 158 = .ok (.newarray .int, 2) := by decide +kernel
theorem dX11_init_160 : decode cX11_init 160 = .ok (.putfield 69, 3) := by decide +kernel
theorem dX11_init_163 : decode cX11_init 163 = .ok (.aload_n 0, 1) := by decide +kernel
theorem dX11_init_164 : decode cX11_init 164 = .ok (.bipush 6, 2) := by decide +kernel
theorem dX11_init_166 : decode cX11_init 166 = .ok (.newarray .int, 2) := by decide +kernel
theorem dX11_init_168 : decode cX11_init 168 = .ok (.putfield 72, 3) := by decide +kernel
theorem dX11_init_171 : decode cX11_init 171 = .ok (.iconst 0, 1) := by decide +kernel
theorem dX11_init_172 : decode cX11_init 172 = .ok (.istore_n 1, 1) := by decide +kernel
theorem dX11_init_173 : decode cX11_init 173 = .ok (.iload_n 1, 1) := by decide +kernel
theorem dX11_init_174 : decode cX11_init 174 = .ok (.bipush 10, 2) := by decide +kernel
theorem dX11_init_176 : decode cX11_init 176 = .ok (.if_icmp .ge 23, 3) := by decide +kernel
theorem dX11_init_179 : decode cX11_init 179 = .ok (.aload_n 0, 1) := by decide +kernel
theorem dX11_init_180 : decode cX11_init 180 = .ok (.getfield 13, 3) := by decide +kernel
theorem dX11_init_183 : decode cX11_init 183 = .ok (.iload_n 1, 1) := by decide +kernel
theorem dX11_init_184 : decode cX11_init 184 = .ok (.iconst 3, 1) := by decide +kernel
theorem dX11_init_185 : decode cX11_init 185 = .ok (.iastore, 1) := by decide +kernel
theorem dX11_init_186 : decode cX11_init 186 = .ok (.aload_n 0, 1) := by decide +kernel
theorem dX11_init_187 : decode cX11_init 187 = .ok (.getfield 17, 3) := by decide +kernel
theorem dX11_init_190 : decode cX11_init 190 = .ok (.iload_n 1, 1) := by decide +kernel
theorem dX11_init_191 : decode cX11_init 191 = .ok (.iconst 1, 1) := by decide +kernel
theorem dX11_init_192 : decode cX11_init 192 = .ok (.iastore, 1) := by decide +kernel
theorem dX11_init_193 : decode cX11_init 193 = .ok (.iinc 1 1, 3) := by decide +kernel
theorem dX11_init_196 : decode cX11_init 196 = .ok (.goto (-23), 3) := by decide +kernel
theorem dX11_init_199 : decode cX11_init 199 = .ok (.return_, 1) := by decide +kernel
theorem dX11_in_0 : decode cX11_in 0 = .ok (.iload_n 0, 1) := by decide +kernel
theorem dX11_in_1 : decode cX11_in 1 = .ok (.iload_n 1, 1) := by decide +kernel
theorem dX11_in_2 : decode cX11_in 2 = .ok (.if_icmp .lt 12, 3) := by decide +kernel
theorem dX11_in_5 : decode cX11_in 5 = .ok (.iload_n 0, 1) := by decide +kernel
theorem dX11_in_6 : decode cX11_in 6 = .ok (.iload_n 2, 1) := by decide +kernel
theorem dX11_in_7 : decode cX11_in 7 = .ok (.if_icmp .gt 7, 3) := by decide +kernel
theorem dX11_in_10 : decode cX11_in 10 = .ok (.iconst 1, 1) := by decide +kernel
theorem dX11_in_11 : decode cX11_in 11 = .ok (.goto 4, 3) := by decide +kernel
theorem dX11_in_14 : decode cX11_in 14 = .ok (.iconst 0, 1) := by decide +kernel
theorem dX11_in_15 : decode cX11_in 15 = .ok (.ireturn, 1) := by decide +kernel
theorem dX11_has_0 : decode cX11_has 0 = .ok (.iload_n 0, 1) := by decide +kernel
theorem dX11_has_1 : decode cX11_has 1 = .ok (.iload_n 1, 1) := by decide +kernel
theorem dX11_has_2 : decode cX11_has 2 = .ok (.ishr, 1) := by decide +kernel
theorem dX11_has_3 : decode cX11_has 3 = .ok (.iconst 1, 1) := by decide +kernel
theorem dX11_has_4 : decode cX11_has 4 = .ok (.iand, 1) := by decide +kernel
theorem dX11_has_5 : decode cX11_has 5 = .ok (.iconst 1, 1) := by decide +kernel
theorem dX11_has_6 : decode cX11_has 6 = .ok (.if_icmp .ne 7, 3) := by decide +kernel
theorem dX11_has_9 : decode cX11_has 9 = .ok (.iconst 1, 1) := by decide +kernel
theorem dX11_has_10 : decode cX11_has 10 = .ok (.goto 4, 3) := by decide +kernel
theorem dX11_has_13 : decode cX11_has 13 = .ok (.iconst 0, 1) := by decide +kernel
theorem dX11_has_14 : decode cX11_has 14 = .ok (.ireturn, 1) := by decide +kernel
set_option maxRecDepth 20000 in
theorem ggX11_type_X11_in : GoodIn wsX11_type wsX11_in := goodIn_r _ [6] (by decide +kernel) (by decide +kernel)
set_option maxRecDepth 20000 in
theorem gX11_type_X11_in : GoodIn wsX11_type (va_wsS RX11 75 yX11_in wsX11_in) := goodIn_app (goodIn_of _ (by decide +kernel)) ggX11_type_X11_in
theorem dX11_type_0 : decode cX11_type 0 = .ok (.iload_n 1, 1) := by decide +kernel
theorem dX11_type_1 : decode cX11_type 1 = .ok (.iconst 0, 1) := by decide +kernel
theorem dX11_type_2 : decode cX11_type 2 = .ok (.sipush 255, 3) := by decide +kernel
theorem dX11_type_5 : decode cX11_type 5 = .ok (.invokestatic 75, 3) := by decide +kernel
theorem dX11_type_8 : decode cX11_type 8 = .ok (.ifCond .ne 5, 3) := by decide +kernel
theorem dX11_type_11 : decode cX11_type 11 = .ok (.iconst (-1), 1) := by decide +kernel
theorem dX11_type_12 : decode cX11_type 12 = .ok (.ireturn, 1) := by decide +kernel
theorem dX11_type_13 : decode cX11_type 13 = .ok (.aload_n 0, 1) := by decide +kernel
theorem dX11_type_14 : decode cX11_type 14 = .ok (.getfield 79, 3) := by decide +kernel
theorem dX11_type_17 : decode cX11_type 17 = .ok (.sipush 200, 3) := by decide +kernel
theorem dX11_type_20 : decode cX11_type 20 = .ok (.if_icmp .ne 6, 3) := by decide +kernel
theorem dX11_type_23 : decode cX11_type 23 = .ok (.bipush (-3), 2) := by decide +kernel
theorem dX11_type_25 : decode cX11_type 25 = .ok (.ireturn, 1) := by decide +kernel
theorem dX11_type_26 : decode cX11_type 26 = .ok (.aload_n 0, 1) := by decide +kernel
theorem dX11_type_27 : decode cX11_type 27 = .ok (.getfield 7, 3) := by decide +kernel
theorem dX11_type_30 : decode cX11_type 30 = .ok (.aload_n 0, 1) := by decide +kernel
theorem dX11_type_31 : decode cX11_type 31 = .ok (.getfield 79, 3) := by decide +kernel
theorem dX11_type_34 : decode cX11_type 34 = .ok (.iload_n 1, 1) := by decide +kernel
theorem dX11_type_35 : decode cX11_type 35 = .ok (.i2b, 1) := by decide +kernel
theorem dX11_type_36 : decode cX11_type 36 = .ok (.bastore, 1) := by decide +kernel
theorem dX11_type_37 : decode cX11_type 37 = .ok (.aload_n 0, 1) := by decide +kernel
theorem dX11_type_38 : decode cX11_type 38 = .ok (.dup, 1) := by decide +kernel
theorem dX11_type_39 : decode cX11_type 39 = .ok (.getfield 79, 3) := by decide +kernel
theorem dX11_type_42 : decode cX11_type 42 = .ok (.iconst 1, 1) := by decide +kernel
theorem dX11_type_43 : decode cX11_type 43 = .ok (.iadd, 1) := by decide +kernel
theorem dX11_type_44 : decode cX11_type 44 = .ok (.putfield 79, 3) := by decide +kernel
theorem dX11_type_47 : decode cX11_type 47 = .ok (.aload_n 0, 1) := by decide +kernel
theorem dX11_type_48 : decode cX11_type 48 = .ok (.getfield 79, 3) := by decide +kernel
theorem dX11_type_51 : decode cX11_type 51 = .ok (.ireturn, 1) := by decide +kernel
theorem dX11_clear_0 : decode cX11_clear 0 = .ok (.aload_n 0, 1) := by decide +kernel
theorem dX11_clear_1 : decode cX11_clear 1 = .ok (.getfield 79, 3) := by decide +kernel
theorem dX11_clear_4 : decode cX11_clear 4 = .ok (.istore_n 1, 1) := by decide +kernel
theorem dX11_clear_5 : decode cX11_clear 5 = .ok (.aload_n 0, 1) := by decide +kernel
theorem dX11_clear_6 : decode cX11_clear 6 = .ok (.iconst 0, 1) := by decide +kernel
theorem dX11_clear_7 : decode cX11_clear 7 = .ok (.putfield 79, 3) := by decide +kernel
theorem dX11_clear_10 : decode cX11_clear 10 = .ok (.iload_n 1, 1) := by decide +kernel
theorem dX11_clear_11 : decode cX11_clear 11 = .ok (.ireturn, 1) := by decide +kernel
theorem dX11_here_0 : decode cX11_here 0 = .ok (.aload_n 0, 1) := by decide +kernel
theorem dX11_here_1 : decode cX11_here 1 = .ok (.getfield 83, 3) := by decide +kernel
theorem dX11_here_4 : decode cX11_here 4 = .ok (.aload_n 0, 1) := by decide +kernel
theorem dX11_here_5 : decode cX11_here 5 = .ok (.getfield 79, 3) := by decide +kernel
theorem dX11_here_8 : decode cX11_here 8 = .ok (.if_icmp .ge 19, 3) := by decide +kernel
theorem dX11_here_11 : decode cX11_here 11 = .ok (.aload_n 0, 1) := by decide +kernel
theorem dX11_here_12 : decode cX11_here 12 = .ok (.getfield 7, 3) := by decide +kernel
theorem dX11_here_15 : decode cX11_here 15 = .ok (.aload_n 0, 1) := by decide +kernel
theorem dX11_here_16 : decode cX11_here 16 = .ok (.getfield 83, 3) := by decide +kernel
theorem dX11_here_19 : decode cX11_here 19 = .ok (.baload, 1) := by decide +kernel
theorem dX11_here_20 : decode cX11_here 20 = .ok (.sipush 255, 3) := by decide +kernel
theorem dX11_here_23 : decode cX11_here 23 = .ok (.iand, 1) := by decide +kernel
theorem dX11_here_24 : decode cX11_here 24 = .ok (.goto 5, 3) := by decide +kernel
theorem dX11_here_27 : decode cX11_here 27 = .ok (.bipush (-9), 2) := by decide +kernel
theorem dX11_here_29 : decode cX11_here 29 = .ok (.ireturn, 1) := by decide +kernel
set_option maxRecDepth 20000 in
theorem ggX11_step_X11_here : GoodIn wsX11_step wsX11_here := goodIn_r _ [9, 1, 10, 11, 15, 16, 17, 18, 19, 20, 21, 22, 23, 24, 25, 26, 27, 28, 29, 30, 31, 32, 33, 34, 35, 36, 37, 38, 39, 40, 41, 42, 43, 44] (by decide +kernel) (by decide +kernel)
set_option maxRecDepth 20000 in
theorem gX11_step_X11_here : GoodIn wsX11_step (wsV RX11 86 RX11 yX11_here wsX11_here) := goodIn_app (goodIn_of _ (by decide +kernel)) ggX11_step_X11_here
set_option maxRecDepth 20000 in
theorem ggX11_step_X11_in : GoodIn wsX11_step wsX11_in := goodIn_r _ [14] (by decide +kernel) (by decide +kernel)
set_option maxRecDepth 20000 in
theorem gX11_step_X11_in : GoodIn wsX11_step (va_wsS RX11 75 yX11_in wsX11_in) := goodIn_app (goodIn_of _ (by decide +kernel)) ggX11_step_X11_in
theorem dX11_step_0 : decode cX11_step 0 = .ok (.aload_n 0, 1) := by decide +kernel
theorem dX11_step_1 : decode cX11_step 1 = .ok (.invokevirtual 86, 3) := by decide +kernel
theorem dX11_step_4 : decode cX11_step 4 = .ok (.bipush 32, 2) := by decide +kernel
theorem dX11_step_6 : decode cX11_step 6 = .ok (.if_icmp .ne 16, 3) := by decide +kernel
theorem dX11_step_9 : decode cX11_step 9 = .ok (.aload_n 0, 1) := by decide +kernel
theorem dX11_step_10 : decode cX11_step 10 = .ok (.dup, 1) := by decide +kernel
theorem dX11_step_11 : decode cX11_step 11 = .ok (.getfield 83, 3) := by decide +kernel
theorem dX11_step_14 : decode cX11_step 14 = .ok (.iconst 1, 1) := by decide +kernel
theorem dX11_step_15 : decode cX11_step 15 = .ok (.iadd, 1) := by decide +kernel
theorem dX11_step_16 : decode cX11_step 16 = .ok (.putfield 83, 3) := by decide +kernel
theorem dX11_step_19 : decode cX11_step 19 = .ok (.goto (-19), 3) := by decide +kernel
theorem dX11_step_22 : decode cX11_step 22 = .ok (.aload_n 0, 1) := by decide +kernel
theorem dX11_step_23 : decode cX11_step 23 = .ok (.aload_n 0, 1) := by decide +kernel
theorem dX11_step_24 : decode cX11_step 24 = .ok (.getfield 83, 3) := by decide +kernel
theorem dX11_step_27 : decode cX11_step 27 = .ok (.putfield 90, 3) := by decide +kernel
theorem dX11_step_30 : decode cX11_step 30 = .ok (.aload_n 0, 1) := by decide +kernel
theorem dX11_step_31 : decode cX11_step 31 = .ok (.iconst 0, 1) := by decide +kernel
theorem dX11_step_32 : decode cX11_step 32 = .ok (.putfield 93, 3) := by decide +kernel
theorem dX11_step_35 : decode cX11_step 35 = .ok (.aload_n 0, 1) := by decide +kernel
theorem dX11_step_36 : decode cX11_step 36 = .ok (.invokevirtual 86, 3) := by decide +kernel
theorem dX11_step_39 : decode cX11_step 39 = .ok (.istore_n 1, 1) := by decide +kernel
theorem dX11_step_40 : decode cX11_step 40 = .ok (.iload_n 1, 1) := by decide +kernel
theorem dX11_step_41 : decode cX11_step 41 = .ok (.bipush (-9), 2) := by decide +kernel
theorem dX11_step_43 : decode cX11_step 43 = .ok (.if_icmp .ne 11, 3) := by decide +kernel
theorem dX11_step_46 : decode cX11_step 46 = .ok (.aload_n 0, 1) := by decide +kernel
theorem dX11_step_47 : decode cX11_step 47 = .ok (.iconst 4, 1) := by decide +kernel
theorem dX11_step_48 : decode cX11_step 48 = .ok (.putfield 96, 3) := by decide +kernel
theorem dX11_step_51 : decode cX11_step 51 = .ok (.goto 209, 3) := by decide +kernel
theorem dX11_step_54 : decode cX11_step 54 = .ok (.iload_n 1, 1) := by decide +kernel
theorem dX11_step_55 : decode cX11_step 55 = .ok (.bipush 48, 2) := by decide +kernel
theorem dX11_step_57 : decode cX11_step 57 = .ok (.bipush 57, 2) := by decide +kernel
theorem dX11_step_59 : decode cX11_step 59 = .ok (.invokestatic 75, 3) := by decide +kernel
theorem dX11_step_62 : decode cX11_step 62 = .ok (.ifCond .eq 105, 3) := by decide +kernel
theorem dX11_step_65 : decode cX11_step 65 = .ok (.aload_n 0, 1) := by decide +kernel
theorem dX11_step_66 : decode cX11_step 66 = .ok (.invokevirtual 86, 3) := by decide +kernel
theorem dX11_step_69 : decode cX11_step 69 = .ok (.bipush 48, 2) := by decide +kernel
theorem dX11_step_71 : decode cX11_step 71 = .ok (.bipush 57, 2) := by decide +kernel
theorem dX11_step_73 : decode cX11_step 73 = .ok (.invokestatic 75, 3) := by decide +kernel
theorem dX11_step_76 : decode cX11_step 76 = .ok (.ifCond .eq 51, 3) := by decide +kernel
theorem dX11_step_79 : decode cX11_step 79 = .ok (.aload_n 0, 1) := by decide +kernel
theorem dX11_step_80 : decode cX11_step 80 = .ok (.aload_n 0, 1) := by decide +kernel
theorem dX11_step_81 : decode cX11_step 81 = .ok (.getfield 93, 3) := by decide +kernel
theorem dX11_step_84 : decode cX11_step 84 = .ok (.bipush 99, 2) := by decide +kernel
theorem dX11_step_86 : decode cX11_step 86 = .ok (.if_icmp .le 10, 3) := by decide +kernel
theorem dX11_step_89 : decode cX11_step 89 = .ok (.aload_n 0, 1) := by decide +kernel
theorem dX11_step_90 : decode cX11_step 90 = .ok (.getfield 93, 3) := by decide +kernel
theorem dX11_step_93 : decode cX11_step 93 = .ok (.goto 18, 3) := by decide +kernel
theorem dX11_step_96 : decode cX11_step 96 = .ok (.bipush 10, 2) := by decide +kernel
theorem dX11_step_98 : decode cX11_step 98 = .ok (.aload_n 0, 1) := by decide +kernel
theorem dX11_step_99 : decode cX11_step 99 = .ok (.getfield 93, 3) := by decide +kernel
theorem dX11_step_102 : decode cX11_step 102 = .ok (.imul, 1) := by decide +kernel
theorem dX11_step_103 : decode cX11_step 103 = .ok (.aload_n 0, 1) := by decide +kernel
theorem dX11_step_104 : decode cX11_step 104 = .ok (.invokevirtual 86, 3) := by decide +kernel
theorem dX11_step_107 : decode cX11_step 107 = .ok (.iadd, 1) := by decide +kernel
theorem dX11_step_108 : decode cX11_step 108 = .ok (.bipush 48, 2) := by decide +kernel
theorem dX11_step_110 : decode cX11_step 110 = .ok (.isub, 1) := by decide +kernel
theorem dX11_step_111 : decode cX11_step 111 = .ok (.putfield 93, 3) := by decide +kernel
theorem dX11_step_114 : decode cX11_step 114 = .ok (.aload_n 0, 1) := by decide +kernel
theorem dX11_step_115 : decode cX11_step 115 = .ok (.dup, 1) := by decide +kernel
theorem dX11_step_116 : decode cX11_step 116 = .ok (.getfield 83, 3) := by decide +kernel
theorem dX11_step_119 : decode cX11_step 119 = .ok (.iconst 1, 1) := by decide +kernel
theorem dX11_step_120 : decode cX11_step 120 = .ok (.iadd, 1) := by decide +kernel
theorem dX11_step_121 : decode cX11_step 121 = .ok (.putfield 83, 3) := by decide +kernel
theorem dX11_step_124 : decode cX11_step 124 = .ok (.goto (-59), 3) := by decide +kernel
theorem dX11_step_127 : decode cX11_step 127 = .ok (.aload_n 0, 1) := by decide +kernel
theorem dX11_step_128 : decode cX11_step 128 = .ok (.aload_n 0, 1) := by decide +kernel
theorem dX11_step_129 : decode cX11_step 129 = .ok (.getfield 93, 3) := by decide +kernel
theorem dX11_step_132 : decode cX11_step 132 = .ok (.bipush 99, 2) := by decide +kernel
theorem dX11_step_134 : decode cX11_step 134 = .ok (.if_icmp .gt 22, 3) := by decide +kernel
theorem dX11_step_137 : decode cX11_step 137 = .ok (.iload_n 1, 1) := by decide +kernel
theorem dX11_step_138 : decode cX11_step 138 = .ok (.bipush 48, 2) := by decide +kernel
theorem dX11_step_140 : decode cX11_step 140 = .ok (.if_icmp .ne 20, 3) := by decide +kernel
theorem dX11_step_143 : decode cX11_step 143 = .ok (.aload_n 0, 1) := by decide +kernel
theorem dX11_step_144 : decode cX11_step 144 = .ok (.getfield 83, 3) := by decide +kernel
theorem dX11_step_147 : decode cX11_step 147 = .ok (.aload_n 0, 1) := by decide +kernel
theorem dX11_step_148 : decode cX11_step 148 = .ok (.getfield 90, 3) := by decide +kernel
theorem dX11_step_151 : decode cX11_step 151 = .ok (.isub, 1) := by decide +kernel
theorem dX11_step_152 : decode cX11_step 152 = .ok (.iconst 1, 1) := by decide +kernel
theorem dX11_step_153 : decode cX11_step 153 = .ok (.if_icmp .le 7, 3) := by decide +kernel
theorem dX11_step_156 : decode cX11_step 156 = .ok (.iconst 5, 1) := by decide +kernel
theorem dX11_step_157 : decode cX11_step 157 = .ok (.goto 4, 3) := by decide +kernel
theorem dX11_step_160 : decode cX11_step 160 = .ok (.iconst 2, 1) := by decide +kernel
theorem dX11_step_161 : decode cX11_step 161 = .ok (.putfield 96, 3) := by decide +kernel
theorem dX11_step_164 : decode cX11_step 164 = .ok (.goto 96, 3) := by decide +kernel
theorem dX11_step_167 : decode cX11_step 167 = .ok (.iload_n 1, 1) := by decide +kernel
theorem dX11_step_168 : decode cX11_step 168 = .ok (.bipush 97, 2) := by decide +kernel
theorem dX11_step_170 : decode cX11_step 170 = .ok (.bipush 122, 2) := by decide +kernel
theorem dX11_step_172 : decode cX11_step 172 = .ok (.invokestatic 75, 3) := by decide +kernel
theorem dX11_step_175 : decode cX11_step 175 = .ok (.ifCond .eq 60, 3) := by decide +kernel
theorem dX11_step_178 : decode cX11_step 178 = .ok (.aload_n 0, 1) := by decide +kernel
theorem dX11_step_179 : decode cX11_step 179 = .ok (.invokevirtual 86, 3) := by decide +kernel
theorem dX11_step_182 : decode cX11_step 182 = .ok (.bipush 97, 2) := by decide +kernel
theorem dX11_step_184 : decode cX11_step 184 = .ok (.bipush 122, 2) := by decide +kernel
theorem dX11_step_186 : decode cX11_step 186 = .ok (.invokestatic 75, 3) := by decide +kernel
theorem dX11_step_189 : decode cX11_step 189 = .ok (.ifCond .eq 16, 3) := by decide +kernel
theorem dX11_step_192 : decode cX11_step 192 = .ok (.aload_n 0, 1) := by decide +kernel
theorem dX11_step_193 : decode cX11_step 193 = .ok (.dup, 1) := by decide +kernel
theorem dX11_step_194 : decode cX11_step 194 = .ok (.getfield 83, 3) := by decide +kernel
theorem dX11_step_197 : decode cX11_step 197 = .ok (.iconst 1, 1) := by decide +kernel
theorem dX11_step_198 : decode cX11_step 198 = .ok (.iadd, 1) := by decide +kernel
theorem dX11_step_199 : decode cX11_step 199 = .ok (.putfield 83, 3) := by decide +kernel
theorem dX11_step_202 : decode cX11_step 202 = .ok (.goto (-24), 3) := by decide +kernel
theorem dX11_step_205 : decode cX11_step 205 = .ok (.aload_n 0, 1) := by decide +kernel
theorem dX11_step_206 : decode cX11_step 206 = .ok (.aload_n 0, 1) := by decide +kernel
theorem dX11_step_207 : decode cX11_step 207 = .ok (.getfield 83, 3) := by decide +kernel
theorem dX11_step_210 : decode cX11_step 210 = .ok (.aload_n 0, 1) := by decide +kernel
theorem dX11_step_211 : decode cX11_step 211 = .ok (.getfield 90, 3) := by decide +kernel
theorem dX11_step_214 : decode cX11_step 214 = .ok (.isub, 1) := by decide +kernel
theorem dX11_step_215 : decode cX11_step 215 = .ok (.iconst 1, 1) := by decide +kernel
theorem dX11_step_216 : decode cX11_step 216 = .ok (.if_icmp .ne 7, 3) := by decide +kernel
theorem dX11_step_219 : decode cX11_step 219 = .ok (.iload_n 1, 1) := by decide +kernel
theorem dX11_step_220 : decode cX11_step 220 = .ok (.goto 4, 3) := by decide +kernel
theorem dX11_step_223 : decode cX11_step 223 = .ok (.iconst 0, 1) := by decide +kernel
theorem dX11_step_224 : decode cX11_step 224 = .ok (.putfield 93, 3) := by decide +kernel
theorem dX11_step_227 : decode cX11_step 227 = .ok (.aload_n 0, 1) := by decide +kernel
theorem dX11_step_228 : decode cX11_step 228 = .ok (.iconst 1, 1) := by decide +kernel
theorem dX11_step_229 : decode cX11_step 229 = .ok (.putfield 96, 3) := by decide +kernel
theorem dX11_step_232 : decode cX11_step 232 = .ok (.goto 28, 3) := by decide +kernel
theorem dX11_step_235 : decode cX11_step 235 = .ok (.aload_n 0, 1) := by decide +kernel
theorem dX11_step_236 : decode cX11_step 236 = .ok (.dup, 1) := by decide +kernel
theorem dX11_step_237 : decode cX11_step 237 = .ok (.getfield 83, 3) := by decide +kernel
theorem dX11_step_240 : decode cX11_step 240 = .ok (.iconst 1, 1) := by decide +kernel
theorem dX11_step_241 : decode cX11_step 241 = .ok (.iadd, 1) := by decide +kernel
theorem dX11_step_242 : decode cX11_step 242 = .ok (.putfield 83, 3) := by decide +kernel
theorem dX11_step_245 : decode cX11_step 245 = .ok (.aload_n 0, 1) := by decide +kernel
theorem dX11_step_246 : decode cX11_step 246 = .ok (.iload_n 1, 1) := by decide +kernel
theorem dX11_step_247 : decode cX11_step 247 = .ok (.bipush 59, 2) := by decide +kernel
theorem dX11_step_249 : decode cX11_step 249 = .ok (.if_icmp .ne 7, 3) := by decide +kernel
theorem dX11_step_252 : decode cX11_step 252 = .ok (.iconst 3, 1) := by decide +kernel
theorem dX11_step_253 : decode cX11_step 253 = .ok (.goto 4, 3) := by decide +kernel
theorem dX11_step_256 : decode cX11_step 256 = .ok (.iconst 5, 1) := by decide +kernel
theorem dX11_step_257 : decode cX11_step 257 = .ok (.putfield 96, 3) := by decide +kernel
theorem dX11_step_260 : decode cX11_step 260 = .ok (.return_, 1) := by decide +kernel
set_option maxRecDepth 20000 in
theorem ggX11_due_X11_step : GoodIn wsX11_due wsX11_step := goodIn_r _ [6, 7, 8, 9, 10, 11, 12, 13, 5, 14, 15, 16, 17, 18, 19, 20, 21, 22, 23, 24, 25, 26, 27, 28, 29, 30, 31, 32, 33, 34, 35, 36, 37, 38, 39, 40, 41, 42, 43, 44, 45, 46, 47, 48, 49] (by decide +kernel) (by decide +kernel)
set_option maxRecDepth 20000 in
theorem gX11_due_X11_step : GoodIn wsX11_due (wsV RX11 103 RX11 yX11_step wsX11_step) := goodIn_app (goodIn_of _ (by decide +kernel)) ggX11_due_X11_step
theorem dX11_due_0 : decode cX11_due 0 = .ok (.aload_n 0, 1) := by decide +kernel
theorem dX11_due_1 : decode cX11_due 1 = .ok (.getfield 99, 3) := by decide +kernel
theorem dX11_due_4 : decode cX11_due 4 = .ok (.ifCond .eq 4, 3) := by decide +kernel
theorem dX11_due_7 : decode cX11_due 7 = .ok (.return_, 1) := by decide +kernel
theorem dX11_due_8 : decode cX11_due 8 = .ok (.iload_n 1, 1) := by decide +kernel
theorem dX11_due_9 : decode cX11_due 9 = .ok (.ifCond .eq 10, 3) := by decide +kernel
theorem dX11_due_12 : decode cX11_due 12 = .ok (.aload_n 0, 1) := by decide +kernel
theorem dX11_due_13 : decode cX11_due 13 = .ok (.invokevirtual 103, 3) := by decide +kernel
theorem dX11_due_16 : decode cX11_due 16 = .ok (.goto 8, 3) := by decide +kernel
theorem dX11_due_19 : decode cX11_due 19 = .ok (.aload_n 0, 1) := by decide +kernel
theorem dX11_due_20 : decode cX11_due 20 = .ok (.iconst 1, 1) := by decide +kernel
theorem dX11_due_21 : decode cX11_due 21 = .ok (.putfield 99, 3) := by decide +kernel
theorem dX11_due_24 : decode cX11_due 24 = .ok (.return_, 1) := by decide +kernel
set_option maxRecDepth 20000 in
theorem ggX11_number_X11_in : GoodIn wsX11_number wsX11_in := goodIn_r _ [6] (by decide +kernel) (by decide +kernel)
set_option maxRecDepth 20000 in
theorem gX11_number_X11_in : GoodIn wsX11_number (va_wsS RX11 75 yX11_in wsX11_in) := goodIn_app (goodIn_of _ (by decide +kernel)) ggX11_number_X11_in
set_option maxRecDepth 20000 in
theorem ggX11_number_X11_due : GoodIn wsX11_number wsX11_due := goodIn_r _ [10, 11, 12, 13, 14, 5, 15, 16, 17, 1, 2, 18, 19, 20, 21, 22, 23, 3, 4, 6, 24, 25, 26, 27, 28, 29, 30, 31, 32, 33, 34, 35, 36, 37, 38, 39, 40, 41, 42, 43, 44, 45, 46, 47, 48, 49, 50, 51, 52, 53] (by decide +kernel) (by decide +kernel)
set_option maxRecDepth 20000 in
theorem gX11_number_X11_due : GoodIn wsX11_number (wsV RX11 106 RX11 yX11_due wsX11_due) := goodIn_app (goodIn_of _ (by decide +kernel)) ggX11_number_X11_due
theorem dX11_number_0 : decode cX11_number 0 = .ok (.aload_n 0, 1) := by decide +kernel
theorem dX11_number_1 : decode cX11_number 1 = .ok (.getfield 93, 3) := by decide +kernel
theorem dX11_number_4 : decode cX11_number 4 = .ok (.istore_n 3, 1) := by decide +kernel
theorem dX11_number_5 : decode cX11_number 5 = .ok (.aload_n 0, 1) := by decide +kernel
theorem dX11_number_6 : decode cX11_number 6 = .ok (.aload_n 0, 1) := by decide +kernel
theorem dX11_number_7 : decode cX11_number 7 = .ok (.getfield 96, 3) := by decide +kernel
theorem dX11_number_10 : decode cX11_number 10 = .ok (.iconst 2, 1) := by decide +kernel
theorem dX11_number_11 : decode cX11_number 11 = .ok (.if_icmp .ne 16, 3) := by decide +kernel
theorem dX11_number_14 : decode cX11_number 14 = .ok (.iload_n 3, 1) := by decide +kernel
theorem dX11_number_15 : decode cX11_number 15 = .ok (.iload_n 1, 1) := by decide +kernel
theorem dX11_number_16 : decode cX11_number 16 = .ok (.iload_n 2, 1) := by decide +kernel
theorem dX11_number_17 : decode cX11_number 17 = .ok (.invokestatic 75, 3) := by decide +kernel
theorem dX11_number_20 : decode cX11_number 20 = .ok (.ifCond .eq 7, 3) := by decide +kernel
theorem dX11_number_23 : decode cX11_number 23 = .ok (.iconst 1, 1) := by decide +kernel
theorem dX11_number_24 : decode cX11_number 24 = .ok (.goto 4, 3) := by decide +kernel
theorem dX11_number_27 : decode cX11_number 27 = .ok (.iconst 0, 1) := by decide +kernel
theorem dX11_number_28 : decode cX11_number 28 = .ok (.invokevirtual 106, 3) := by decide +kernel
theorem dX11_number_31 : decode cX11_number 31 = .ok (.iload_n 3, 1) := by decide +kernel
theorem dX11_number_32 : decode cX11_number 32 = .ok (.ireturn, 1) := by decide +kernel
set_option maxRecDepth 20000 in
theorem ggX11_rope_X11_number : GoodIn wsX11_rope wsX11_number := goodIn_r _ [10, 2, 3, 11, 12, 9, 13, 14, 15, 16, 17, 4, 18, 19, 20, 21, 22, 23, 24, 25, 26, 27, 28, 29, 30, 31, 32, 33, 34, 35, 36, 37, 38, 39, 40, 41, 42, 43, 44, 45, 46, 47, 48, 49, 50, 51, 52, 53, 54, 55, 56, 57, 58, 59] (by decide +kernel) (by decide +kernel)
set_option maxRecDepth 20000 in
theorem gX11_rope_X11_number : GoodIn wsX11_rope (wsV RX11 110 RX11 yX11_number wsX11_number) := goodIn_app (goodIn_of _ (by decide +kernel)) ggX11_rope_X11_number
set_option maxRecDepth 20000 in
theorem ggX11_rope_X11_due : GoodIn wsX11_rope wsX11_due := goodIn_r _ [17, 4, 18, 19, 20, 9, 21, 22, 23, 2, 3, 24, 25, 26, 27, 28, 29, 11, 12, 13, 30, 31, 32, 33, 34, 35, 36, 37, 38, 39, 40, 41, 42, 43, 44, 45, 46, 47, 48, 49, 50, 51, 52, 53, 54, 55, 56, 57, 58, 59] (by decide +kernel) (by decide +kernel)
set_option maxRecDepth 20000 in
theorem gX11_rope_X11_due : GoodIn wsX11_rope (wsV RX11 106 RX11 yX11_due wsX11_due) := goodIn_app (goodIn_of _ (by decide +kernel)) ggX11_rope_X11_due
theorem dX11_rope_0 : decode cX11_rope 0 = .ok (.aload_n 0, 1) := by decide +kernel
theorem dX11_rope_1 : decode cX11_rope 1 = .ok (.iconst 0, 1) := by decide +kernel
theorem dX11_rope_2 : decode cX11_rope 2 = .ok (.aload_n 0, 1) := by decide +kernel
theorem dX11_rope_3 : decode cX11_rope 3 = .ok (.getfield 20, 3) := by decide +kernel
theorem dX11_rope_6 : decode cX11_rope 6 = .ok (.iconst 1, 1) := by decide +kernel
theorem dX11_rope_7 : decode cX11_rope 7 = .ok (.iaload, 1) := by decide +kernel
theorem dX11_rope_8 : decode cX11_rope 8 = .ok (.iconst 1, 1) := by decide +kernel
theorem dX11_rope_9 : decode cX11_rope 9 = .ok (.isub, 1) := by decide +kernel
theorem dX11_rope_10 : decode cX11_rope 10 = .ok (.invokevirtual 110, 3) := by decide +kernel
theorem dX11_rope_13 : decode cX11_rope 13 = .ok (.istore_n 1, 1) := by decide +kernel
theorem dX11_rope_14 : decode cX11_rope 14 = .ok (.aload_n 0, 1) := by decide +kernel
theorem dX11_rope_15 : decode cX11_rope 15 = .ok (.getfield 93, 3) := by decide +kernel
theorem dX11_rope_18 : decode cX11_rope 18 = .ok (.istore_n 2, 1) := by decide +kernel
theorem dX11_rope_19 : decode cX11_rope 19 = .ok (.aload_n 0, 1) := by decide +kernel
theorem dX11_rope_20 : decode cX11_rope 20 = .ok (.aload_n 0, 1) := by decide +kernel
theorem dX11_rope_21 : decode cX11_rope 21 = .ok (.getfield 96, 3) := by decide +kernel
theorem dX11_rope_24 : decode cX11_rope 24 = .ok (.iconst 2, 1) := by decide +kernel
theorem dX11_rope_25 : decode cX11_rope 25 = .ok (.if_icmp .ne 22, 3) := by decide +kernel
theorem dX11_rope_28 : decode cX11_rope 28 = .ok (.iload_n 2, 1) := by decide +kernel
theorem dX11_rope_29 : decode cX11_rope 29 = .ok (.aload_n 0, 1) := by decide +kernel
theorem dX11_rope_30 : decode cX11_rope 30 = .ok (.getfield 20, 3) := by decide +kernel
theorem dX11_rope_33 : decode cX11_rope 33 = .ok (.iconst 1, 1) := by decide +kernel
theorem dX11_rope_34 : decode cX11_rope 34 = .ok (.iaload, 1) := by decide +kernel
theorem dX11_rope_35 : decode cX11_rope 35 = .ok (.if_icmp .ge 12, 3) := by decide +kernel
theorem dX11_rope_38 : decode cX11_rope 38 = .ok (.iload_n 2, 1) := by decide +kernel
theorem dX11_rope_39 : decode cX11_rope 39 = .ok (.iload_n 1, 1) := by decide +kernel
theorem dX11_rope_40 : decode cX11_rope 40 = .ok (.if_icmp .eq 7, 3) := by decide +kernel
theorem dX11_rope_43 : decode cX11_rope 43 = .ok (.iconst 1, 1) := by decide +kernel
theorem dX11_rope_44 : decode cX11_rope 44 = .ok (.goto 4, 3) := by decide +kernel
theorem dX11_rope_47 : decode cX11_rope 47 = .ok (.iconst 0, 1) := by decide +kernel
theorem dX11_rope_48 : decode cX11_rope 48 = .ok (.invokevirtual 106, 3) := by decide +kernel
theorem dX11_rope_51 : decode cX11_rope 51 = .ok (.aload_n 0, 1) := by decide +kernel
theorem dX11_rope_52 : decode cX11_rope 52 = .ok (.getfield 99, 3) := by decide +kernel
theorem dX11_rope_55 : decode cX11_rope 55 = .ok (.ifCond .ne 33, 3) := by decide +kernel
theorem dX11_rope_58 : decode cX11_rope 58 = .ok (.aload_n 0, 1) := by decide +kernel
theorem dX11_rope_59 : decode cX11_rope 59 = .ok (.getfield 26, 3) := by decide +kernel
theorem dX11_rope_62 : decode cX11_rope 62 = .ok (.bipush 6, 2) := by decide +kernel
theorem dX11_rope_64 : decode cX11_rope 64 = .ok (.iload_n 1, 1) := by decide +kernel
theorem dX11_rope_65 : decode cX11_rope 65 = .ok (.iadd, 1) := by decide +kernel
theorem dX11_rope_66 : decode cX11_rope 66 = .ok (.dup2, 1) := by decide +kernel
theorem dX11_rope_67 : decode cX11_rope 67 = .ok (.iaload, 1) := by decide +kernel
theorem dX11_rope_68 : decode cX11_rope 68 = .ok (.iconst 1, 1) := by decide +kernel
theorem dX11_rope_69 : decode cX11_rope 69 = .ok (.iload_n 2, 1) := by decide +kernel
theorem dX11_rope_70 : decode cX11_rope 70 = .ok (.ishl, 1) := by decide +kernel
theorem dX11_rope_71 : decode cX11_rope 71 = .ok (.ior, 1) := by decide +kernel
theorem dX11_rope_72 : decode cX11_rope 72 = .ok (.iastore, 1) := by decide +kernel
theorem dX11_rope_73 : decode cX11_rope 73 = .ok (.aload_n 0, 1) := by decide +kernel
theorem dX11_rope_74 : decode cX11_rope 74 = .ok (.getfield 26, 3) := by decide +kernel
theorem dX11_rope_77 : decode cX11_rope 77 = .ok (.bipush 6, 2) := by decide +kernel
theorem dX11_rope_79 : decode cX11_rope 79 = .ok (.iload_n 2, 1) := by decide +kernel
theorem dX11_rope_80 : decode cX11_rope 80 = .ok (.iadd, 1) := by decide +kernel
theorem dX11_rope_81 : decode cX11_rope 81 = .ok (.dup2, 1) := by decide +kernel
theorem dX11_rope_82 : decode cX11_rope 82 = .ok (.iaload, 1) := by decide +kernel
theorem dX11_rope_83 : decode cX11_rope 83 = .ok (.iconst 1, 1) := by decide +kernel
theorem dX11_rope_84 : decode cX11_rope 84 = .ok (.iload_n 1, 1) := by decide +kernel
theorem dX11_rope_85 : decode cX11_rope 85 = .ok (.ishl, 1) := by decide +kernel
theorem dX11_rope_86 : decode cX11_rope 86 = .ok (.ior, 1) := by decide +kernel
theorem dX11_rope_87 : decode cX11_rope 87 = .ok (.iastore, 1) := by decide +kernel
theorem dX11_rope_88 : decode cX11_rope 88 = .ok (.return_, 1) := by decide +kernel
set_option maxRecDepth 20000 in
theorem ggX11_item_X11_number : GoodIn wsX11_item wsX11_number := goodIn_r _ [16, 17, 18, 19, 20, 15, 21, 22, 23, 24, 25, 1, 26, 27, 28, 29, 30, 31, 32, 33, 34, 35, 36, 37, 43, 44, 45, 46, 47, 48, 49, 50, 51, 52, 53, 54, 55, 56, 57, 58, 59, 60, 61, 62, 63, 64, 65, 66, 67, 68, 69, 70, 71, 72] (by decide +kernel) (by decide +kernel)
set_option maxRecDepth 20000 in
theorem gX11_item_X11_number : GoodIn wsX11_item (wsV RX11 110 RX11 yX11_number wsX11_number) := goodIn_app (goodIn_of _ (by decide +kernel)) ggX11_item_X11_number
set_option maxRecDepth 20000 in
theorem ggX11_item_X11_rope : GoodIn wsX11_item wsX11_rope := goodIn_r _ [41, 5, 17, 18, 1, 42, 12, 13, 14, 15, 16, 19, 20, 21, 22, 23, 24, 25, 26, 27, 28, 29, 30, 31, 32, 33, 34, 35, 36, 37, 43, 44, 45, 46, 47, 48, 49, 50, 51, 52, 53, 54, 55, 56, 57, 58, 59, 60, 61, 62, 63, 64, 65, 66, 67, 68, 69, 70, 71, 72] (by decide +kernel) (by decide +kernel)
set_option maxRecDepth 20000 in
theorem gX11_item_X11_rope : GoodIn wsX11_item (wsV RX11 114 RX11 yX11_rope wsX11_rope) := goodIn_app (goodIn_of _ (by decide +kernel)) ggX11_item_X11_rope
theorem dX11_item_0 : decode cX11_item 0 = .ok (.iload_n 1, 1) := by decide +kernel
theorem dX11_item_1 : decode cX11_item 1 = .ok (.lookupswitch 228 #[(97, 128), (99, 35), (114, 90)], 35) := by decide +kernel
theorem dX11_item_36 : decode cX11_item 36 = .ok (.aload_n 0, 1) := by decide +kernel
theorem dX11_item_37 : decode cX11_item 37 = .ok (.iconst 0, 1) := by decide +kernel
theorem dX11_item_38 : decode cX11_item 38 = .ok (.bipush 9, 2) := by decide +kernel
theorem dX11_item_40 : decode cX11_item 40 = .ok (.invokevirtual 110, 3) := by decide +kernel
theorem dX11_item_43 : decode cX11_item 43 = .ok (.istore_n 2, 1) := by decide +kernel
theorem dX11_item_44 : decode cX11_item 44 = .ok (.aload_n 0, 1) := by decide +kernel
theorem dX11_item_45 : decode cX11_item 45 = .ok (.iconst 1, 1) := by decide +kernel
theorem dX11_item_46 : decode cX11_item 46 = .ok (.bipush 9, 2) := by decide +kernel
theorem dX11_item_48 : decode cX11_item 48 = .ok (.invokevirtual 110, 3) := by decide +kernel
theorem dX11_item_51 : decode cX11_item 51 = .ok (.istore_n 3, 1) := by decide +kernel
theorem dX11_item_52 : decode cX11_item 52 = .ok (.aload_n 0, 1) := by decide +kernel
theorem dX11_item_53 : decode cX11_item 53 = .ok (.iconst 0, 1) := by decide +kernel
theorem dX11_item_54 : decode cX11_item 54 = .ok (.iconst 3, 1) := by decide +kernel
theorem dX11_item_55 : decode cX11_item 55 = .ok (.invokevirtual 110, 3) := by decide +kernel
theorem dX11_item_58 : decode cX11_item 58 = .ok (.istore 4, 2) := by decide +kernel
theorem dX11_item_60 : decode cX11_item 60 = .ok (.aload_n 0, 1) := by decide +kernel
theorem dX11_item_61 : decode cX11_item 61 = .ok (.getfield 99, 3) := by decide +kernel
theorem dX11_item_64 : decode cX11_item 64 = .ok (.ifCond .ne 169, 3) := by decide +kernel
theorem dX11_item_67 : decode cX11_item 67 = .ok (.aload_n 0, 1) := by decide +kernel
theorem dX11_item_68 : decode cX11_item 68 = .ok (.getfield 13, 3) := by decide +kernel
theorem dX11_item_71 : decode cX11_item 71 = .ok (.bipush 10, 2) := by decide +kernel
theorem dX11_item_73 : decode cX11_item 73 = .ok (.iload_n 2, 1) := by decide +kernel
theorem dX11_item_74 : decode cX11_item 74 = .ok (.iadd, 1) := by decide +kernel
theorem dX11_item_75 : decode cX11_item 75 = .ok (.iload_n 3, 1) := by decide +kernel
theorem dX11_item_76 : decode cX11_item 76 = .ok (.iastore, 1) := by decide +kernel
theorem dX11_item_77 : decode cX11_item 77 = .ok (.aload_n 0, 1) := by decide +kernel
theorem dX11_item_78 : decode cX11_item 78 = .ok (.getfield 17, 3) := by decide +kernel
theorem dX11_item_81 : decode cX11_item 81 = .ok (.bipush 10, 2) := by decide +kernel
theorem dX11_item_83 : decode cX11_item 83 = .ok (.iload_n 2, 1) := by decide +kernel
theorem dX11_item_84 : decode cX11_item 84 = .ok (.iadd, 1) := by decide +kernel
theorem dX11_item_85 : decode cX11_item 85 = .ok (.iload 4, 2) := by decide +kernel
theorem dX11_item_87 : decode cX11_item 87 = .ok (.iastore, 1) := by decide +kernel
theorem dX11_item_88 : decode cX11_item 88 = .ok (.goto 145, 3) := by decide +kernel
theorem dX11_item_91 : decode cX11_item 91 = .ok (.aload_n 0, 1) := by decide +kernel
theorem dX11_item_92 : decode cX11_item 92 = .ok (.getfield 23, 3) := by decide +kernel
theorem dX11_item_95 : decode cX11_item 95 = .ok (.bipush 6, 2) := by decide +kernel
theorem dX11_item_97 : decode cX11_item 97 = .ok (.aload_n 0, 1) := by decide +kernel
theorem dX11_item_98 : decode cX11_item 98 = .ok (.getfield 20, 3) := by decide +kernel
theorem dX11_item_101 : decode cX11_item 101 = .ok (.iconst 1, 1) := by decide +kernel
theorem dX11_item_102 : decode cX11_item 102 = .ok (.iaload, 1) := by decide +kernel
theorem dX11_item_103 : decode cX11_item 103 = .ok (.iadd, 1) := by decide +kernel
theorem dX11_item_104 : decode cX11_item 104 = .ok (.aload_n 0, 1) := by decide +kernel
theorem dX11_item_105 : decode cX11_item 105 = .ok (.iconst 0, 1) := by decide +kernel
theorem dX11_item_106 : decode cX11_item 106 = .ok (.aload_n 0, 1) := by decide +kernel
theorem dX11_item_107 : decode cX11_item 107 = .ok (.getfield 20, 3) := by decide +kernel
theorem dX11_item_110 : decode cX11_item 110 = .ok (.iconst 1, 1) := by decide +kernel
theorem dX11_item_111 : decode cX11_item 111 = .ok (.iaload, 1) := by decide +kernel
theorem dX11_item_112 : decode cX11_item 112 = .ok (.invokevirtual 110, 3) := by decide +kernel
theorem dX11_item_115 : decode cX11_item 115 = .ok (.iastore, 1) := by decide +kernel
theorem dX11_item_116 : decode cX11_item 116 = .ok (.aload_n 0, 1) := by decide +kernel
theorem dX11_item_117 : decode cX11_item 117 = .ok (.getfield 20, 3) := by decide +kernel
theorem dX11_item_120 : decode cX11_item 120 = .ok (.iconst 1, 1) := by decide +kernel
theorem dX11_item_121 : decode cX11_item 121 = .ok (.dup2, 1) := by decide +kernel
theorem dX11_item_122 : decode cX11_item 122 = .ok (.iaload, 1) := by decide +kernel
theorem dX11_item_123 : decode cX11_item 123 = .ok (.iconst 1, 1) := by decide +kernel
theorem dX11_item_124 : decode cX11_item 124 = .ok (.iadd, 1) := by decide +kernel
theorem dX11_item_125 : decode cX11_item 125 = .ok (.iastore, 1) := by decide +kernel
theorem dX11_item_126 : decode cX11_item 126 = .ok (.goto 107, 3) := by decide +kernel
theorem dX11_item_129 : decode cX11_item 129 = .ok (.bipush 8, 2) := by decide +kernel
theorem dX11_item_131 : decode cX11_item 131 = .ok (.aload_n 0, 1) := by decide +kernel
theorem dX11_item_132 : decode cX11_item 132 = .ok (.getfield 29, 3) := by decide +kernel
theorem dX11_item_135 : decode cX11_item 135 = .ok (.iconst 1, 1) := by decide +kernel
theorem dX11_item_136 : decode cX11_item 136 = .ok (.iaload, 1) := by decide +kernel
theorem dX11_item_137 : decode cX11_item 137 = .ok (.iadd, 1) := by decide +kernel
theorem dX11_item_138 : decode cX11_item 138 = .ok (.istore 5, 2) := by decide +kernel
theorem dX11_item_140 : decode cX11_item 140 = .ok (.aload_n 0, 1) := by decide +kernel
theorem dX11_item_141 : decode cX11_item 141 = .ok (.getfield 32, 3) := by decide +kernel
theorem dX11_item_144 : decode cX11_item 144 = .ok (.iload 5, 2) := by decide +kernel
theorem dX11_item_146 : decode cX11_item 146 = .ok (.aload_n 0, 1) := by decide +kernel
theorem dX11_item_147 : decode cX11_item 147 = .ok (.iconst 0, 1) := by decide +kernel
theorem dX11_item_148 : decode cX11_item 148 = .ok (.aload_n 0, 1) := by decide +kernel
theorem dX11_item_149 : decode cX11_item 149 = .ok (.getfield 20, 3) := by decide +kernel
theorem dX11_item_152 : decode cX11_item 152 = .ok (.iconst 1, 1) := by decide +kernel
theorem dX11_item_153 : decode cX11_item 153 = .ok (.iaload, 1) := by decide +kernel
theorem dX11_item_154 : decode cX11_item 154 = .ok (.iconst 1, 1) := by decide +kernel
theorem dX11_item_155 : decode cX11_item 155 = .ok (.isub, 1) := by decide +kernel
theorem dX11_item_156 : decode cX11_item 156 = .ok (.invokevirtual 110, 3) := by decide +kernel
theorem dX11_item_159 : decode cX11_item 159 = .ok (.iastore, 1) := by decide +kernel
theorem dX11_item_160 : decode cX11_item 160 = .ok (.aload_n 0, 1) := by decide +kernel
theorem dX11_item_161 : decode cX11_item 161 = .ok (.getfield 35, 3) := by decide +kernel
theorem dX11_item_164 : decode cX11_item 164 = .ok (.iload 5, 2) := by decide +kernel
theorem dX11_item_166 : decode cX11_item 166 = .ok (.aload_n 0, 1) := by decide +kernel
theorem dX11_item_167 : decode cX11_item 167 = .ok (.iconst 0, 1) := by decide +kernel
theorem dX11_item_168 : decode cX11_item 168 = .ok (.bipush 9, 2) := by decide +kernel
theorem dX11_item_170 : decode cX11_item 170 = .ok (.invokevirtual 110, 3) := by decide +kernel
theorem dX11_item_173 : decode cX11_item 173 = .ok (.iastore, 1) := by decide +kernel
theorem dX11_item_174 : decode cX11_item 174 = .ok (.aload_n 0, 1) := by decide +kernel
theorem dX11_item_175 : decode cX11_item 175 = .ok (.getfield 38, 3) := by decide +kernel
theorem dX11_item_178 : decode cX11_item 178 = .ok (.iload 5, 2) := by decide +kernel
theorem dX11_item_180 : decode cX11_item 180 = .ok (.aload_n 0, 1) := by decide +kernel
theorem dX11_item_181 : decode cX11_item 181 = .ok (.iconst 1, 1) := by decide +kernel
theorem dX11_item_182 : decode cX11_item 182 = .ok (.bipush 9, 2) := by decide +kernel
theorem dX11_item_184 : decode cX11_item 184 = .ok (.invokevirtual 110, 3) := by decide +kernel
theorem dX11_item_187 : decode cX11_item 187 = .ok (.iastore, 1) := by decide +kernel
theorem dX11_item_188 : decode cX11_item 188 = .ok (.aload_n 0, 1) := by decide +kernel
theorem dX11_item_189 : decode cX11_item 189 = .ok (.getfield 41, 3) := by decide +kernel
theorem dX11_item_192 : decode cX11_item 192 = .ok (.iload 5, 2) := by decide +kernel
theorem dX11_item_194 : decode cX11_item 194 = .ok (.aload_n 0, 1) := by decide +kernel
theorem dX11_item_195 : decode cX11_item 195 = .ok (.iconst 1, 1) := by decide +kernel
theorem dX11_item_196 : decode cX11_item 196 = .ok (.bipush 60, 2) := by decide +kernel
theorem dX11_item_198 : decode cX11_item 198 = .ok (.invokevirtual 110, 3) := by decide +kernel
theorem dX11_item_201 : decode cX11_item 201 = .ok (.iastore, 1) := by decide +kernel
theorem dX11_item_202 : decode cX11_item 202 = .ok (.aload_n 0, 1) := by decide +kernel
theorem dX11_item_203 : decode cX11_item 203 = .ok (.getfield 44, 3) := by decide +kernel
theorem dX11_item_206 : decode cX11_item 206 = .ok (.iload 5, 2) := by decide +kernel
theorem dX11_item_208 : decode cX11_item 208 = .ok (.aload_n 0, 1) := by decide +kernel
theorem dX11_item_209 : decode cX11_item 209 = .ok (.iconst 0, 1) := by decide +kernel
theorem dX11_item_210 : decode cX11_item 210 = .ok (.bipush 99, 2) := by decide +kernel
theorem dX11_item_212 : decode cX11_item 212 = .ok (.invokevirtual 110, 3) := by decide +kernel
theorem dX11_item_215 : decode cX11_item 215 = .ok (.iastore, 1) := by decide +kernel
theorem dX11_item_216 : decode cX11_item 216 = .ok (.aload_n 0, 1) := by decide +kernel
theorem dX11_item_217 : decode cX11_item 217 = .ok (.getfield 29, 3) := by decide +kernel
theorem dX11_item_220 : decode cX11_item 220 = .ok (.iconst 1, 1) := by decide +kernel
theorem dX11_item_221 : decode cX11_item 221 = .ok (.dup2, 1) := by decide +kernel
theorem dX11_item_222 : decode cX11_item 222 = .ok (.iaload, 1) := by decide +kernel
theorem dX11_item_223 : decode cX11_item 223 = .ok (.iconst 1, 1) := by decide +kernel
theorem dX11_item_224 : decode cX11_item 224 = .ok (.iadd, 1) := by decide +kernel
theorem dX11_item_225 : decode cX11_item 225 = .ok (.iastore, 1) := by decide +kernel
theorem dX11_item_226 : decode cX11_item 226 = .ok (.goto 7, 3) := by decide +kernel
theorem dX11_item_229 : decode cX11_item 229 = .ok (.aload_n 0, 1) := by decide +kernel
theorem dX11_item_230 : decode cX11_item 230 = .ok (.invokevirtual 114, 3) := by decide +kernel
theorem dX11_item_233 : decode cX11_item 233 = .ok (.return_, 1) := by decide +kernel
theorem dX11_may_0 : decode cX11_may 0 = .ok (.iload_n 1, 1) := by decide +kernel
theorem dX11_may_1 : decode cX11_may 1 = .ok (.lookupswitch 61 #[(97, 44), (114, 27)], 27) := by decide +kernel
theorem dX11_may_28 : decode cX11_may 28 = .ok (.aload_n 0, 1) := by decide +kernel
theorem dX11_may_29 : decode cX11_may 29 = .ok (.getfield 20, 3) := by decide +kernel
theorem dX11_may_32 : decode cX11_may 32 = .ok (.iconst 1, 1) := by decide +kernel
theorem dX11_may_33 : decode cX11_may 33 = .ok (.iaload, 1) := by decide +kernel
theorem dX11_may_34 : decode cX11_may 34 = .ok (.bipush 6, 2) := by decide +kernel
theorem dX11_may_36 : decode cX11_may 36 = .ok (.if_icmp .ge 7, 3) := by decide +kernel
theorem dX11_may_39 : decode cX11_may 39 = .ok (.iconst 1, 1) := by decide +kernel
theorem dX11_may_40 : decode cX11_may 40 = .ok (.goto 4, 3) := by decide +kernel
theorem dX11_may_43 : decode cX11_may 43 = .ok (.iconst 0, 1) := by decide +kernel
theorem dX11_may_44 : decode cX11_may 44 = .ok (.ireturn, 1) := by decide +kernel
theorem dX11_may_45 : decode cX11_may 45 = .ok (.aload_n 0, 1) := by decide +kernel
theorem dX11_may_46 : decode cX11_may 46 = .ok (.getfield 29, 3) := by decide +kernel
theorem dX11_may_49 : decode cX11_may 49 = .ok (.iconst 1, 1) := by decide +kernel
theorem dX11_may_50 : decode cX11_may 50 = .ok (.iaload, 1) := by decide +kernel
theorem dX11_may_51 : decode cX11_may 51 = .ok (.bipush 8, 2) := by decide +kernel
theorem dX11_may_53 : decode cX11_may 53 = .ok (.if_icmp .ge 7, 3) := by decide +kernel
theorem dX11_may_56 : decode cX11_may 56 = .ok (.iconst 1, 1) := by decide +kernel
theorem dX11_may_57 : decode cX11_may 57 = .ok (.goto 4, 3) := by decide +kernel
theorem dX11_may_60 : decode cX11_may 60 = .ok (.iconst 0, 1) := by decide +kernel
theorem dX11_may_61 : decode cX11_may 61 = .ok (.ireturn, 1) := by decide +kernel
theorem dX11_may_62 : decode cX11_may 62 = .ok (.iload_n 1, 1) := by decide +kernel
theorem dX11_may_63 : decode cX11_may 63 = .ok (.bipush 99, 2) := by decide +kernel
theorem dX11_may_65 : decode cX11_may 65 = .ok (.if_icmp .eq 9, 3) := by decide +kernel
theorem dX11_may_68 : decode cX11_may 68 = .ok (.iload_n 1, 1) := by decide +kernel
theorem dX11_may_69 : decode cX11_may 69 = .ok (.bipush 116, 2) := by decide +kernel
theorem dX11_may_71 : decode cX11_may 71 = .ok (.if_icmp .ne 7, 3) := by decide +kernel
theorem dX11_may_74 : decode cX11_may 74 = .ok (.iconst 1, 1) := by decide +kernel
theorem dX11_may_75 : decode cX11_may 75 = .ok (.goto 4, 3) := by decide +kernel
theorem dX11_may_78 : decode cX11_may 78 = .ok (.iconst 0, 1) := by decide +kernel
theorem dX11_may_79 : decode cX11_may 79 = .ok (.ireturn, 1) := by decide +kernel
set_option maxRecDepth 20000 in
theorem ggX11_read_X11_step : GoodIn wsX11_read wsX11_step := goodIn_r _ [15, 1, 16, 10, 9, 17, 18, 19, 14, 20, 21, 22, 23, 24, 25, 52, 53, 54, 55, 56, 57, 58, 59, 60, 61, 62, 63, 64, 65, 66, 67, 68, 69, 70, 71, 72, 73, 74, 75, 76, 77, 78, 79, 80, 81] (by decide +kernel) (by decide +kernel)
set_option maxRecDepth 20000 in
theorem gX11_read_X11_step : GoodIn wsX11_read (wsV RX11 103 RX11 yX11_step wsX11_step) := goodIn_app (goodIn_of _ (by decide +kernel)) ggX11_read_X11_step
set_option maxRecDepth 20000 in
theorem ggX11_read_X11_may : GoodIn wsX11_read wsX11_may := goodIn_r _ [29, 4, 5, 52, 53, 54, 55, 56, 57, 58, 59, 60, 61, 62, 63, 64, 65, 66, 67, 68, 69, 70, 71, 72, 73, 74, 75, 76, 77, 78, 79, 80, 81] (by decide +kernel) (by decide +kernel)
set_option maxRecDepth 20000 in
theorem gX11_read_X11_may : GoodIn wsX11_read (wsV RX11 120 RX11 yX11_may wsX11_may) := goodIn_app (goodIn_of _ (by decide +kernel)) ggX11_read_X11_may
set_option maxRecDepth 20000 in
theorem ggX11_read_X11_due : GoodIn wsX11_read wsX11_due := goodIn_r _ [33, 2, 11, 12, 13, 14, 15, 1, 16, 10, 9, 17, 18, 19, 20, 21, 22, 23, 24, 25, 52, 53, 54, 55, 56, 57, 58, 59, 60, 61, 62, 63, 64, 65, 66, 67, 68, 69, 70, 71, 72, 73, 74, 75, 76, 77, 78, 79, 80, 81] (by decide +kernel) (by decide +kernel)
set_option maxRecDepth 20000 in
theorem gX11_read_X11_due : GoodIn wsX11_read (wsV RX11 106 RX11 yX11_due wsX11_due) := goodIn_app (goodIn_of _ (by decide +kernel)) ggX11_read_X11_due
set_option maxRecDepth 20000 in
theorem ggX11_read_X11_item : GoodIn wsX11_read wsX11_item := goodIn_r _ [37, 2, 6, 7, 38, 4, 5, 39, 40, 41, 42, 43, 44, 45, 46, 14, 47, 10, 9, 23, 24, 25, 30, 31, 32, 33, 11, 12, 13, 15, 1, 16, 17, 18, 19, 20, 21, 22, 48, 49, 50, 51, 8, 52, 53, 54, 55, 56, 57, 58, 59, 60, 61, 62, 63, 64, 65, 66, 67, 68, 69, 70, 71, 72, 73, 74, 75, 76, 77, 78, 79, 80, 81] (by decide +kernel) (by decide +kernel)
set_option maxRecDepth 20000 in
theorem gX11_read_X11_item : GoodIn wsX11_read (wsV RX11 124 RX11 yX11_item wsX11_item) := goodIn_app (goodIn_of _ (by decide +kernel)) ggX11_read_X11_item
theorem dX11_read_0 : decode cX11_read 0 = .ok (.aload_n 0, 1) := by decide +kernel
theorem dX11_read_1 : decode cX11_read 1 = .ok (.iconst 0, 1) := by decide +kernel
theorem dX11_read_2 : decode cX11_read 2 = .ok (.putfield 83, 3) := by decide +kernel
theorem dX11_read_5 : decode cX11_read 5 = .ok (.aload_n 0, 1) := by decide +kernel
theorem dX11_read_6 : decode cX11_read 6 = .ok (.iconst 0, 1) := by decide +kernel
theorem dX11_read_7 : decode cX11_read 7 = .ok (.putfield 99, 3) := by decide +kernel
theorem dX11_read_10 : decode cX11_read 10 = .ok (.aload_n 0, 1) := by decide +kernel
theorem dX11_read_11 : decode cX11_read 11 = .ok (.iconst 0, 1) := by decide +kernel
theorem dX11_read_12 : decode cX11_read 12 = .ok (.putfield 117, 3) := by decide +kernel
theorem dX11_read_15 : decode cX11_read 15 = .ok (.aload_n 0, 1) := by decide +kernel
theorem dX11_read_16 : decode cX11_read 16 = .ok (.getfield 20, 3) := by decide +kernel
theorem dX11_read_19 : decode cX11_read 19 = .ok (.iconst 1, 1) := by decide +kernel
theorem dX11_read_20 : decode cX11_read 20 = .ok (.iconst 0, 1) := by decide +kernel
theorem dX11_read_21 : decode cX11_read 21 = .ok (.iastore, 1) := by decide +kernel
theorem dX11_read_22 : decode cX11_read 22 = .ok (.aload_n 0, 1) := by decide +kernel
theorem dX11_read_23 : decode cX11_read 23 = .ok (.getfield 29, 3) := by decide +kernel
theorem dX11_read_26 : decode cX11_read 26 = .ok (.iconst 1, 1) := by decide +kernel
theorem dX11_read_27 : decode cX11_read 27 = .ok (.iconst 0, 1) := by decide +kernel
theorem dX11_read_28 : decode cX11_read 28 = .ok (.iastore, 1) := by decide +kernel
theorem dX11_read_29 : decode cX11_read 29 = .ok (.iconst 0, 1) := by decide +kernel
theorem dX11_read_30 : decode cX11_read 30 = .ok (.istore_n 1, 1) := by decide +kernel
theorem dX11_read_31 : decode cX11_read 31 = .ok (.iload_n 1, 1) := by decide +kernel
theorem dX11_read_32 : decode cX11_read 32 = .ok (.bipush 10, 2) := by decide +kernel
theorem dX11_read_34 : decode cX11_read 34 = .ok (.if_icmp .ge 29, 3) := by decide +kernel
theorem dX11_read_37 : decode cX11_read 37 = .ok (.aload_n 0, 1) := by decide +kernel
theorem dX11_read_38 : decode cX11_read 38 = .ok (.getfield 13, 3) := by decide +kernel
theorem dX11_read_41 : decode cX11_read 41 = .ok (.bipush 10, 2) := by decide +kernel
theorem dX11_read_43 : decode cX11_read 43 = .ok (.iload_n 1, 1) := by decide +kernel
theorem dX11_read_44 : decode cX11_read 44 = .ok (.iadd, 1) := by decide +kernel
theorem dX11_read_45 : decode cX11_read 45 = .ok (.iconst 3, 1) := by decide +kernel
theorem dX11_read_46 : decode cX11_read 46 = .ok (.iastore, 1) := by decide +kernel
theorem dX11_read_47 : decode cX11_read 47 = .ok (.aload_n 0, 1) := by decide +kernel
theorem dX11_read_48 : decode cX11_read 48 = .ok (.getfield 17, 3) := by decide +kernel
theorem dX11_read_51 : decode cX11_read 51 = .ok (.bipush 10, 2) := by decide +kernel
theorem dX11_read_53 : decode cX11_read 53 = .ok (.iload_n 1, 1) := by decide +kernel
theorem dX11_read_54 : decode cX11_read 54 = .ok (.iadd, 1) := by decide +kernel
theorem dX11_read_55 : decode cX11_read 55 = .ok (.iconst 1, 1) := by decide +kernel
theorem dX11_read_56 : decode cX11_read 56 = .ok (.iastore, 1) := by decide +kernel
theorem dX11_read_57 : decode cX11_read 57 = .ok (.iinc 1 1, 3) := by decide +kernel
theorem dX11_read_60 : decode cX11_read 60 = .ok (.goto (-29), 3) := by decide +kernel
theorem dX11_read_63 : decode cX11_read 63 = .ok (.iconst 0, 1) := by decide +kernel
theorem dX11_read_64 : decode cX11_read 64 = .ok (.istore_n 1, 1) := by decide +kernel
theorem dX11_read_65 : decode cX11_read 65 = .ok (.iload_n 1, 1) := by decide +kernel
theorem dX11_read_66 : decode cX11_read 66 = .ok (.bipush 6, 2) := by decide +kernel
theorem dX11_read_68 : decode cX11_read 68 = .ok (.if_icmp .ge 19, 3) := by decide +kernel
theorem dX11_read_71 : decode cX11_read 71 = .ok (.aload_n 0, 1) := by decide +kernel
theorem dX11_read_72 : decode cX11_read 72 = .ok (.getfield 26, 3) := by decide +kernel
theorem dX11_read_75 : decode cX11_read 75 = .ok (.bipush 6, 2) := by decide +kernel
theorem dX11_read_77 : decode cX11_read 77 = .ok (.iload_n 1, 1) := by decide +kernel
theorem dX11_read_78 : decode cX11_read 78 = .ok (.iadd, 1) := by decide +kernel
theorem dX11_read_79 : decode cX11_read 79 = .ok (.iconst 0, 1) := by decide +kernel
theorem dX11_read_80 : decode cX11_read 80 = .ok (.iastore, 1) := by decide +kernel
theorem dX11_read_81 : decode cX11_read 81 = .ok (.iinc 1 1, 3) := by decide +kernel
theorem dX11_read_84 : decode cX11_read 84 = .ok (.goto (-19), 3) := by decide +kernel
theorem dX11_read_87 : decode cX11_read 87 = .ok (.aload_n 0, 1) := by decide +kernel
theorem dX11_read_88 : decode cX11_read 88 = .ok (.invokevirtual 103, 3) := by decide +kernel
theorem dX11_read_91 : decode cX11_read 91 = .ok (.aload_n 0, 1) := by decide +kernel
theorem dX11_read_92 : decode cX11_read 92 = .ok (.getfield 96, 3) := by decide +kernel
theorem dX11_read_95 : decode cX11_read 95 = .ok (.iconst 4, 1) := by decide +kernel
theorem dX11_read_96 : decode cX11_read 96 = .ok (.if_icmp .eq 94, 3) := by decide +kernel
theorem dX11_read_99 : decode cX11_read 99 = .ok (.aload_n 0, 1) := by decide +kernel
theorem dX11_read_100 : decode cX11_read 100 = .ok (.getfield 99, 3) := by decide +kernel
theorem dX11_read_103 : decode cX11_read 103 = .ok (.ifCond .ne 87, 3) := by decide +kernel
theorem dX11_read_106 : decode cX11_read 106 = .ok (.aload_n 0, 1) := by decide +kernel
theorem dX11_read_107 : decode cX11_read 107 = .ok (.getfield 96, 3) := by decide +kernel
theorem dX11_read_110 : decode cX11_read 110 = .ok (.iconst 1, 1) := by decide +kernel
theorem dX11_read_111 : decode cX11_read 111 = .ok (.if_icmp .ne 10, 3) := by decide +kernel
theorem dX11_read_114 : decode cX11_read 114 = .ok (.aload_n 0, 1) := by decide +kernel
theorem dX11_read_115 : decode cX11_read 115 = .ok (.getfield 93, 3) := by decide +kernel
theorem dX11_read_118 : decode cX11_read 118 = .ok (.goto 4, 3) := by decide +kernel
theorem dX11_read_121 : decode cX11_read 121 = .ok (.iconst 0, 1) := by decide +kernel
theorem dX11_read_122 : decode cX11_read 122 = .ok (.istore_n 1, 1) := by decide +kernel
theorem dX11_read_123 : decode cX11_read 123 = .ok (.aload_n 0, 1) := by decide +kernel
theorem dX11_read_124 : decode cX11_read 124 = .ok (.aload_n 0, 1) := by decide +kernel
theorem dX11_read_125 : decode cX11_read 125 = .ok (.getfield 96, 3) := by decide +kernel
theorem dX11_read_128 : decode cX11_read 128 = .ok (.iconst 1, 1) := by decide +kernel
theorem dX11_read_129 : decode cX11_read 129 = .ok (.if_icmp .ne 15, 3) := by decide +kernel
theorem dX11_read_132 : decode cX11_read 132 = .ok (.aload_n 0, 1) := by decide +kernel
theorem dX11_read_133 : decode cX11_read 133 = .ok (.iload_n 1, 1) := by decide +kernel
theorem dX11_read_134 : decode cX11_read 134 = .ok (.invokevirtual 120, 3) := by decide +kernel
theorem dX11_read_137 : decode cX11_read 137 = .ok (.ifCond .eq 7, 3) := by decide +kernel
theorem dX11_read_140 : decode cX11_read 140 = .ok (.iconst 1, 1) := by decide +kernel
theorem dX11_read_141 : decode cX11_read 141 = .ok (.goto 4, 3) := by decide +kernel
theorem dX11_read_144 : decode cX11_read 144 = .ok (.iconst 0, 1) := by decide +kernel
theorem dX11_read_145 : decode cX11_read 145 = .ok (.invokevirtual 106, 3) := by decide +kernel
theorem dX11_read_148 : decode cX11_read 148 = .ok (.aload_n 0, 1) := by decide +kernel
theorem dX11_read_149 : decode cX11_read 149 = .ok (.getfield 99, 3) := by decide +kernel
theorem dX11_read_152 : decode cX11_read 152 = .ok (.ifCond .ne 35, 3) := by decide +kernel
theorem dX11_read_155 : decode cX11_read 155 = .ok (.aload_n 0, 1) := by decide +kernel
theorem dX11_read_156 : decode cX11_read 156 = .ok (.iload_n 1, 1) := by decide +kernel
theorem dX11_read_157 : decode cX11_read 157 = .ok (.invokevirtual 124, 3) := by decide +kernel
theorem dX11_read_160 : decode cX11_read 160 = .ok (.aload_n 0, 1) := by decide +kernel
theorem dX11_read_161 : decode cX11_read 161 = .ok (.aload_n 0, 1) := by decide +kernel
theorem dX11_read_162 : decode cX11_read 162 = .ok (.getfield 96, 3) := by decide +kernel
theorem dX11_read_165 : decode cX11_read 165 = .ok (.iconst 3, 1) := by decide +kernel
theorem dX11_read_166 : decode cX11_read 166 = .ok (.if_icmp .ne 7, 3) := by decide +kernel
theorem dX11_read_169 : decode cX11_read 169 = .ok (.iconst 1, 1) := by decide +kernel
theorem dX11_read_170 : decode cX11_read 170 = .ok (.goto 4, 3) := by decide +kernel
theorem dX11_read_173 : decode cX11_read 173 = .ok (.iconst 0, 1) := by decide +kernel
theorem dX11_read_174 : decode cX11_read 174 = .ok (.invokevirtual 106, 3) := by decide +kernel
theorem dX11_read_177 : decode cX11_read 177 = .ok (.aload_n 0, 1) := by decide +kernel
theorem dX11_read_178 : decode cX11_read 178 = .ok (.dup, 1) := by decide +kernel
theorem dX11_read_179 : decode cX11_read 179 = .ok (.getfield 117, 3) := by decide +kernel
theorem dX11_read_182 : decode cX11_read 182 = .ok (.iconst 1, 1) := by decide +kernel
theorem dX11_read_183 : decode cX11_read 183 = .ok (.iadd, 1) := by decide +kernel
theorem dX11_read_184 : decode cX11_read 184 = .ok (.putfield 117, 3) := by decide +kernel
theorem dX11_read_187 : decode cX11_read 187 = .ok (.goto (-96), 3) := by decide +kernel
theorem dX11_read_190 : decode cX11_read 190 = .ok (.return_, 1) := by decide +kernel
set_option maxRecDepth 20000 in
theorem ggX11_town_X11_read : GoodIn wsX11_town wsX11_read := goodIn_r _ [24, 25, 1, 19, 3, 4, 6, 7, 8, 26, 27, 28, 29, 30, 23, 31, 2, 32, 33, 34, 35, 18, 36, 37, 38, 39, 40, 41, 42, 43, 44, 45, 46, 47, 48, 49, 50, 51, 9, 10, 13, 11, 14, 12, 52, 53, 54, 55, 56, 57, 58, 59, 60, 61, 62, 63, 64, 65, 66, 67, 68, 69, 70, 71, 72, 73, 74, 75, 76, 77, 78, 79, 80, 81, 82, 83, 84, 85, 86, 87, 88, 89] (by decide +kernel) (by decide +kernel)
set_option maxRecDepth 20000 in
theorem gX11_town_X11_read : GoodIn wsX11_town (wsV RX11 128 RX11 yX11_read wsX11_read) := goodIn_app (goodIn_of _ (by decide +kernel)) ggX11_town_X11_read
theorem dX11_town_0 : decode cX11_town 0 = .ok (.aload_n 0, 1) := by decide +kernel
theorem dX11_town_1 : decode cX11_town 1 = .ok (.invokevirtual 128, 3) := by decide +kernel
theorem dX11_town_4 : decode cX11_town 4 = .ok (.aload_n 0, 1) := by decide +kernel
theorem dX11_town_5 : decode cX11_town 5 = .ok (.getfield 99, 3) := by decide +kernel
theorem dX11_town_8 : decode cX11_town 8 = .ok (.ifCond .eq 11, 3) := by decide +kernel
theorem dX11_town_11 : decode cX11_town 11 = .ok (.bipush (-10), 2) := by decide +kernel
theorem dX11_town_13 : decode cX11_town 13 = .ok (.aload_n 0, 1) := by decide +kernel
theorem dX11_town_14 : decode cX11_town 14 = .ok (.getfield 90, 3) := by decide +kernel
theorem dX11_town_17 : decode cX11_town 17 = .ok (.isub, 1) := by decide +kernel
theorem dX11_town_18 : decode cX11_town 18 = .ok (.ireturn, 1) := by decide +kernel
theorem dX11_town_19 : decode cX11_town 19 = .ok (.aload_n 0, 1) := by decide +kernel
theorem dX11_town_20 : decode cX11_town 20 = .ok (.getfield 20, 3) := by decide +kernel
theorem dX11_town_23 : decode cX11_town 23 = .ok (.iconst 0, 1) := by decide +kernel
theorem dX11_town_24 : decode cX11_town 24 = .ok (.aload_n 0, 1) := by decide +kernel
theorem dX11_town_25 : decode cX11_town 25 = .ok (.getfield 20, 3) := by decide +kernel
theorem dX11_town_28 : decode cX11_town 28 = .ok (.iconst 1, 1) := by decide +kernel
theorem dX11_town_29 : decode cX11_town 29 = .ok (.iaload, 1) := by decide +kernel
theorem dX11_town_30 : decode cX11_town 30 = .ok (.iastore, 1) := by decide +kernel
theorem dX11_town_31 : decode cX11_town 31 = .ok (.aload_n 0, 1) := by decide +kernel
theorem dX11_town_32 : decode cX11_town 32 = .ok (.getfield 29, 3) := by decide +kernel
theorem dX11_town_35 : decode cX11_town 35 = .ok (.iconst 0, 1) := by decide +kernel
theorem dX11_town_36 : decode cX11_town 36 = .ok (.aload_n 0, 1) := by decide +kernel
theorem dX11_town_37 : decode cX11_town 37 = .ok (.getfield 29, 3) := by decide +kernel
theorem dX11_town_40 : decode cX11_town 40 = .ok (.iconst 1, 1) := by decide +kernel
theorem dX11_town_41 : decode cX11_town 41 = .ok (.iaload, 1) := by decide +kernel
theorem dX11_town_42 : decode cX11_town 42 = .ok (.iastore, 1) := by decide +kernel
theorem dX11_town_43 : decode cX11_town 43 = .ok (.iconst 0, 1) := by decide +kernel
theorem dX11_town_44 : decode cX11_town 44 = .ok (.istore_n 1, 1) := by decide +kernel
theorem dX11_town_45 : decode cX11_town 45 = .ok (.iload_n 1, 1) := by decide +kernel
theorem dX11_town_46 : decode cX11_town 46 = .ok (.bipush 45, 2) := by decide +kernel
theorem dX11_town_48 : decode cX11_town 48 = .ok (.if_icmp .ge 16, 3) := by decide +kernel
theorem dX11_town_51 : decode cX11_town 51 = .ok (.aload_n 0, 1) := by decide +kernel
theorem dX11_town_52 : decode cX11_town 52 = .ok (.getfield 47, 3) := by decide +kernel
theorem dX11_town_55 : decode cX11_town 55 = .ok (.iload_n 1, 1) := by decide +kernel
theorem dX11_town_56 : decode cX11_town 56 = .ok (.iconst 0, 1) := by decide +kernel
theorem dX11_town_57 : decode cX11_town 57 = .ok (.iastore, 1) := by decide +kernel
theorem dX11_town_58 : decode cX11_town 58 = .ok (.iinc 1 1, 3) := by decide +kernel
theorem dX11_town_61 : decode cX11_town 61 = .ok (.goto (-16), 3) := by decide +kernel
theorem dX11_town_64 : decode cX11_town 64 = .ok (.iconst 0, 1) := by decide +kernel
theorem dX11_town_65 : decode cX11_town 65 = .ok (.istore_n 1, 1) := by decide +kernel
theorem dX11_town_66 : decode cX11_town 66 = .ok (.iload_n 1, 1) := by decide +kernel
theorem dX11_town_67 : decode cX11_town 67 = .ok (.bipush 10, 2) := by decide +kernel
theorem dX11_town_69 : decode cX11_town 69 = .ok (.if_icmp .ge 39, 3) := by decide +kernel
theorem dX11_town_72 : decode cX11_town 72 = .ok (.aload_n 0, 1) := by decide +kernel
theorem dX11_town_73 : decode cX11_town 73 = .ok (.getfield 13, 3) := by decide +kernel
theorem dX11_town_76 : decode cX11_town 76 = .ok (.iload_n 1, 1) := by decide +kernel
theorem dX11_town_77 : decode cX11_town 77 = .ok (.aload_n 0, 1) := by decide +kernel
theorem dX11_town_78 : decode cX11_town 78 = .ok (.getfield 13, 3) := by decide +kernel
theorem dX11_town_81 : decode cX11_town 81 = .ok (.bipush 10, 2) := by decide +kernel
theorem dX11_town_83 : decode cX11_town 83 = .ok (.iload_n 1, 1) := by decide +kernel
theorem dX11_town_84 : decode cX11_town 84 = .ok (.iadd, 1) := by decide +kernel
theorem dX11_town_85 : decode cX11_town 85 = .ok (.iaload, 1) := by decide +kernel
theorem dX11_town_86 : decode cX11_town 86 = .ok (.iastore, 1) := by decide +kernel
theorem dX11_town_87 : decode cX11_town 87 = .ok (.aload_n 0, 1) := by decide +kernel
theorem dX11_town_88 : decode cX11_town 88 = .ok (.getfield 17, 3) := by decide +kernel
theorem dX11_town_91 : decode cX11_town 91 = .ok (.iload_n 1, 1) := by decide +kernel
theorem dX11_town_92 : decode cX11_town 92 = .ok (.aload_n 0, 1) := by decide +kernel
theorem dX11_town_93 : decode cX11_town 93 = .ok (.getfield 17, 3) := by decide +kernel
theorem dX11_town_96 : decode cX11_town 96 = .ok (.bipush 10, 2) := by decide +kernel
theorem dX11_town_98 : decode cX11_town 98 = .ok (.iload_n 1, 1) := by decide +kernel
theorem dX11_town_99 : decode cX11_town 99 = .ok (.iadd, 1) := by decide +kernel
theorem dX11_town_100 : decode cX11_town 100 = .ok (.iaload, 1) := by decide +kernel
theorem dX11_town_101 : decode cX11_town 101 = .ok (.iastore, 1) := by decide +kernel
theorem dX11_town_102 : decode cX11_town 102 = .ok (.iinc 1 1, 3) := by decide +kernel
theorem dX11_town_105 : decode cX11_town 105 = .ok (.goto (-39), 3) := by decide +kernel
theorem dX11_town_108 : decode cX11_town 108 = .ok (.iconst 0, 1) := by decide +kernel
theorem dX11_town_109 : decode cX11_town 109 = .ok (.istore_n 1, 1) := by decide +kernel
theorem dX11_town_110 : decode cX11_town 110 = .ok (.iload_n 1, 1) := by decide +kernel
theorem dX11_town_111 : decode cX11_town 111 = .ok (.bipush 6, 2) := by decide +kernel
theorem dX11_town_113 : decode cX11_town 113 = .ok (.if_icmp .ge 56, 3) := by decide +kernel
theorem dX11_town_116 : decode cX11_town 116 = .ok (.aload_n 0, 1) := by decide +kernel
theorem dX11_town_117 : decode cX11_town 117 = .ok (.getfield 26, 3) := by decide +kernel
theorem dX11_town_120 : decode cX11_town 120 = .ok (.iload_n 1, 1) := by decide +kernel
theorem dX11_town_121 : decode cX11_town 121 = .ok (.aload_n 0, 1) := by decide +kernel
theorem dX11_town_122 : decode cX11_town 122 = .ok (.getfield 26, 3) := by decide +kernel
theorem dX11_town_125 : decode cX11_town 125 = .ok (.bipush 6, 2) := by decide +kernel
theorem dX11_town_127 : decode cX11_town 127 = .ok (.iload_n 1, 1) := by decide +kernel
theorem dX11_town_128 : decode cX11_town 128 = .ok (.iadd, 1) := by decide +kernel
theorem dX11_town_129 : decode cX11_town 129 = .ok (.iaload, 1) := by decide +kernel
theorem dX11_town_130 : decode cX11_town 130 = .ok (.iastore, 1) := by decide +kernel
theorem dX11_town_131 : decode cX11_town 131 = .ok (.aload_n 0, 1) := by decide +kernel
theorem dX11_town_132 : decode cX11_town 132 = .ok (.getfield 47, 3) := by decide +kernel
theorem dX11_town_135 : decode cX11_town 135 = .ok (.bipush 33, 2) := by decide +kernel
theorem dX11_town_137 : decode cX11_town 137 = .ok (.iload_n 1, 1) := by decide +kernel
theorem dX11_town_138 : decode cX11_town 138 = .ok (.iadd, 1) := by decide +kernel
theorem dX11_town_139 : decode cX11_town 139 = .ok (.iload_n 1, 1) := by decide +kernel
theorem dX11_town_140 : decode cX11_town 140 = .ok (.aload_n 0, 1) := by decide +kernel
theorem dX11_town_141 : decode cX11_town 141 = .ok (.getfield 20, 3) := by decide +kernel
theorem dX11_town_144 : decode cX11_town 144 = .ok (.iconst 0, 1) := by decide +kernel
theorem dX11_town_145 : decode cX11_town 145 = .ok (.iaload, 1) := by decide +kernel
theorem dX11_town_146 : decode cX11_town 146 = .ok (.if_icmp .ge 15, 3) := by decide +kernel
theorem dX11_town_149 : decode cX11_town 149 = .ok (.aload_n 0, 1) := by decide +kernel
theorem dX11_town_150 : decode cX11_town 150 = .ok (.getfield 23, 3) := by decide +kernel
theorem dX11_town_153 : decode cX11_town 153 = .ok (.bipush 6, 2) := by decide +kernel
theorem dX11_town_155 : decode cX11_town 155 = .ok (.iload_n 1, 1) := by decide +kernel
theorem dX11_town_156 : decode cX11_town 156 = .ok (.iadd, 1) := by decide +kernel
theorem dX11_town_157 : decode cX11_town 157 = .ok (.iaload, 1) := by decide +kernel
theorem dX11_town_158 : decode cX11_town 158 = .ok (.goto 4, 3) := by decide +kernel
theorem dX11_town_161 : decode cX11_town 161 = .ok (.iconst 0, 1) := by decide +kernel
theorem dX11_town_162 : decode cX11_town 162 = .ok (.iastore, 1) := by decide +kernel
theorem dX11_town_163 : decode cX11_town 163 = .ok (.iinc 1 1, 3) := by decide +kernel
theorem dX11_town_166 : decode cX11_town 166 = .ok (.goto (-56), 3) := by decide +kernel
theorem dX11_town_169 : decode cX11_town 169 = .ok (.iconst 0, 1) := by decide +kernel
theorem dX11_town_170 : decode cX11_town 170 = .ok (.istore_n 1, 1) := by decide +kernel
theorem dX11_town_171 : decode cX11_town 171 = .ok (.iload_n 1, 1) := by decide +kernel
theorem dX11_town_172 : decode cX11_town 172 = .ok (.aload_n 0, 1) := by decide +kernel
theorem dX11_town_173 : decode cX11_town 173 = .ok (.getfield 29, 3) := by decide +kernel
theorem dX11_town_176 : decode cX11_town 176 = .ok (.iconst 0, 1) := by decide +kernel
theorem dX11_town_177 : decode cX11_town 177 = .ok (.iaload, 1) := by decide +kernel
theorem dX11_town_178 : decode cX11_town 178 = .ok (.if_icmp .ge 89, 3) := by decide +kernel
theorem dX11_town_181 : decode cX11_town 181 = .ok (.aload_n 0, 1) := by decide +kernel
theorem dX11_town_182 : decode cX11_town 182 = .ok (.getfield 32, 3) := by decide +kernel
theorem dX11_town_185 : decode cX11_town 185 = .ok (.iload_n 1, 1) := by decide +kernel
theorem dX11_town_186 : decode cX11_town 186 = .ok (.aload_n 0, 1) := by decide +kernel
theorem dX11_town_187 : decode cX11_town 187 = .ok (.getfield 32, 3) := by decide +kernel
theorem dX11_town_190 : decode cX11_town 190 = .ok (.bipush 8, 2) := by decide +kernel
theorem dX11_town_192 : decode cX11_town 192 = .ok (.iload_n 1, 1) := by decide +kernel
theorem dX11_town_193 : decode cX11_town 193 = .ok (.iadd, 1) := by decide +kernel
theorem dX11_town_194 : decode cX11_town 194 = .ok (.iaload, 1) := by decide +kernel
theorem dX11_town_195 : decode cX11_town 195 = .ok (.iastore, 1) := by decide +kernel
theorem dX11_town_196 : decode cX11_town 196 = .ok (.aload_n 0, 1) := by decide +kernel
theorem dX11_town_197 : decode cX11_town 197 = .ok (.getfield 38, 3) := by decide +kernel
theorem dX11_town_200 : decode cX11_town 200 = .ok (.iload_n 1, 1) := by decide +kernel
theorem dX11_town_201 : decode cX11_town 201 = .ok (.aload_n 0, 1) := by decide +kernel
theorem dX11_town_202 : decode cX11_town 202 = .ok (.getfield 38, 3) := by decide +kernel
theorem dX11_town_205 : decode cX11_town 205 = .ok (.bipush 8, 2) := by decide +kernel
theorem dX11_town_207 : decode cX11_town 207 = .ok (.iload_n 1, 1) := by decide +kernel
theorem dX11_town_208 : decode cX11_town 208 = .ok (.iadd, 1) := by decide +kernel
theorem dX11_town_209 : decode cX11_town 209 = .ok (.iaload, 1) := by decide +kernel
theorem dX11_town_210 : decode cX11_town 210 = .ok (.iastore, 1) := by decide +kernel
theorem dX11_town_211 : decode cX11_town 211 = .ok (.aload_n 0, 1) := by decide +kernel
theorem dX11_town_212 : decode cX11_town 212 = .ok (.getfield 44, 3) := by decide +kernel
theorem dX11_town_215 : decode cX11_town 215 = .ok (.iload_n 1, 1) := by decide +kernel
theorem dX11_town_216 : decode cX11_town 216 = .ok (.aload_n 0, 1) := by decide +kernel
theorem dX11_town_217 : decode cX11_town 217 = .ok (.getfield 44, 3) := by decide +kernel
theorem dX11_town_220 : decode cX11_town 220 = .ok (.bipush 8, 2) := by decide +kernel
theorem dX11_town_222 : decode cX11_town 222 = .ok (.iload_n 1, 1) := by decide +kernel
theorem dX11_town_223 : decode cX11_town 223 = .ok (.iadd, 1) := by decide +kernel
theorem dX11_town_224 : decode cX11_town 224 = .ok (.iaload, 1) := by decide +kernel
theorem dX11_town_225 : decode cX11_town 225 = .ok (.iastore, 1) := by decide +kernel
theorem dX11_town_226 : decode cX11_town 226 = .ok (.aload_n 0, 1) := by decide +kernel
theorem dX11_town_227 : decode cX11_town 227 = .ok (.getfield 47, 3) := by decide +kernel
theorem dX11_town_230 : decode cX11_town 230 = .ok (.iconst 0, 1) := by decide +kernel
theorem dX11_town_231 : decode cX11_town 231 = .ok (.iload_n 1, 1) := by decide +kernel
theorem dX11_town_232 : decode cX11_town 232 = .ok (.iadd, 1) := by decide +kernel
theorem dX11_town_233 : decode cX11_town 233 = .ok (.aload_n 0, 1) := by decide +kernel
theorem dX11_town_234 : decode cX11_town 234 = .ok (.getfield 35, 3) := by decide +kernel
theorem dX11_town_237 : decode cX11_town 237 = .ok (.bipush 8, 2) := by decide +kernel
theorem dX11_town_239 : decode cX11_town 239 = .ok (.iload_n 1, 1) := by decide +kernel
theorem dX11_town_240 : decode cX11_town 240 = .ok (.iadd, 1) := by decide +kernel
theorem dX11_town_241 : decode cX11_town 241 = .ok (.iaload, 1) := by decide +kernel
theorem dX11_town_242 : decode cX11_town 242 = .ok (.iastore, 1) := by decide +kernel
theorem dX11_town_243 : decode cX11_town 243 = .ok (.aload_n 0, 1) := by decide +kernel
theorem dX11_town_244 : decode cX11_town 244 = .ok (.getfield 47, 3) := by decide +kernel
theorem dX11_town_247 : decode cX11_town 247 = .ok (.bipush 8, 2) := by decide +kernel
theorem dX11_town_249 : decode cX11_town 249 = .ok (.iload_n 1, 1) := by decide +kernel
theorem dX11_town_250 : decode cX11_town 250 = .ok (.iadd, 1) := by decide +kernel
theorem dX11_town_251 : decode cX11_town 251 = .ok (.aload_n 0, 1) := by decide +kernel
theorem dX11_town_252 : decode cX11_town 252 = .ok (.getfield 41, 3) := by decide +kernel
theorem dX11_town_255 : decode cX11_town 255 = .ok (.bipush 8, 2) := by decide +kernel
theorem dX11_town_257 : decode cX11_town 257 = .ok (.iload_n 1, 1) := by decide +kernel
theorem dX11_town_258 : decode cX11_town 258 = .ok (.iadd, 1) := by decide +kernel
theorem dX11_town_259 : decode cX11_town 259 = .ok (.iaload, 1) := by decide +kernel
theorem dX11_town_260 : decode cX11_town 260 = .ok (.iastore, 1) := by decide +kernel
theorem dX11_town_261 : decode cX11_town 261 = .ok (.iinc 1 1, 3) := by decide +kernel
theorem dX11_town_264 : decode cX11_town 264 = .ok (.goto (-93), 3) := by decide +kernel
theorem dX11_town_267 : decode cX11_town 267 = .ok (.aload_n 0, 1) := by decide +kernel
theorem dX11_town_268 : decode cX11_town 268 = .ok (.getfield 50, 3) := by decide +kernel
theorem dX11_town_271 : decode cX11_town 271 = .ok (.iconst 0, 1) := by decide +kernel
theorem dX11_town_272 : decode cX11_town 272 = .ok (.iconst 0, 1) := by decide +kernel
theorem dX11_town_273 : decode cX11_town 273 = .ok (.iastore, 1) := by decide +kernel
theorem dX11_town_274 : decode cX11_town 274 = .ok (.aload_n 0, 1) := by decide +kernel
theorem dX11_town_275 : decode cX11_town 275 = .ok (.getfield 59, 3) := by decide +kernel
theorem dX11_town_278 : decode cX11_town 278 = .ok (.iconst 0, 1) := by decide +kernel
theorem dX11_town_279 : decode cX11_town 279 = .ok (.iconst 0, 1) := by decide +kernel
theorem dX11_town_280 : decode cX11_town 280 = .ok (.bastore, 1) := by decide +kernel
theorem dX11_town_281 : decode cX11_town 281 = .ok (.aload_n 0, 1) := by decide +kernel
theorem dX11_town_282 : decode cX11_town 282 = .ok (.getfield 59, 3) := by decide +kernel
theorem dX11_town_285 : decode cX11_town 285 = .ok (.iconst 1, 1) := by decide +kernel
theorem dX11_town_286 : decode cX11_town 286 = .ok (.iconst 0, 1) := by decide +kernel
theorem dX11_town_287 : decode cX11_town 287 = .ok (.bastore, 1) := by decide +kernel
theorem dX11_town_288 : decode cX11_town 288 = .ok (.aload_n 0, 1) := by decide +kernel
theorem dX11_town_289 : decode cX11_town 289 = .ok (.iconst 0, 1) := by decide +kernel
theorem dX11_town_290 : decode cX11_town 290 = .ok (.putfield 131, 3) := by decide +kernel
theorem dX11_town_293 : decode cX11_town 293 = .ok (.aload_n 0, 1) := by decide +kernel
theorem dX11_town_294 : decode cX11_town 294 = .ok (.iconst 0, 1) := by decide +kernel
theorem dX11_town_295 : decode cX11_town 295 = .ok (.putfield 79, 3) := by decide +kernel
theorem dX11_town_298 : decode cX11_town 298 = .ok (.aload_n 0, 1) := by decide +kernel
theorem dX11_town_299 : decode cX11_town 299 = .ok (.getfield 117, 3) := by decide +kernel
theorem dX11_town_302 : decode cX11_town 302 = .ok (.ireturn, 1) := by decide +kernel
set_option maxRecDepth 20000 in
theorem ggX11_isRaft_X11_in : GoodIn wsX11_isRaft wsX11_in := goodIn_r _ [5] (by decide +kernel) (by decide +kernel)
set_option maxRecDepth 20000 in
theorem gX11_isRaft_X11_in : GoodIn wsX11_isRaft (va_wsS RX11 75 yX11_in wsX11_in) := goodIn_app (goodIn_of _ (by decide +kernel)) ggX11_isRaft_X11_in
theorem dX11_isRaft_0 : decode cX11_isRaft 0 = .ok (.iload_n 1, 1) := by decide +kernel
theorem dX11_isRaft_1 : decode cX11_isRaft 1 = .ok (.iconst 0, 1) := by decide +kernel
theorem dX11_isRaft_2 : decode cX11_isRaft 2 = .ok (.aload_n 0, 1) := by decide +kernel
theorem dX11_isRaft_3 : decode cX11_isRaft 3 = .ok (.getfield 20, 3) := by decide +kernel
theorem dX11_isRaft_6 : decode cX11_isRaft 6 = .ok (.iconst 0, 1) := by decide +kernel
theorem dX11_isRaft_7 : decode cX11_isRaft 7 = .ok (.iaload, 1) := by decide +kernel
theorem dX11_isRaft_8 : decode cX11_isRaft 8 = .ok (.iconst 1, 1) := by decide +kernel
theorem dX11_isRaft_9 : decode cX11_isRaft 9 = .ok (.isub, 1) := by decide +kernel
theorem dX11_isRaft_10 : decode cX11_isRaft 10 = .ok (.invokestatic 75, 3) := by decide +kernel
theorem dX11_isRaft_13 : decode cX11_isRaft 13 = .ok (.ireturn, 1) := by decide +kernel
set_option maxRecDepth 20000 in
theorem ggX11_isAnchor_X11_in : GoodIn wsX11_isAnchor wsX11_in := goodIn_r _ [5] (by decide +kernel) (by decide +kernel)
set_option maxRecDepth 20000 in
theorem gX11_isAnchor_X11_in : GoodIn wsX11_isAnchor (va_wsS RX11 75 yX11_in wsX11_in) := goodIn_app (goodIn_of _ (by decide +kernel)) ggX11_isAnchor_X11_in
theorem dX11_isAnchor_0 : decode cX11_isAnchor 0 = .ok (.iload_n 1, 1) := by decide +kernel
theorem dX11_isAnchor_1 : decode cX11_isAnchor 1 = .ok (.iconst 0, 1) := by decide +kernel
theorem dX11_isAnchor_2 : decode cX11_isAnchor 2 = .ok (.aload_n 0, 1) := by decide +kernel
theorem dX11_isAnchor_3 : decode cX11_isAnchor 3 = .ok (.getfield 29, 3) := by decide +kernel
theorem dX11_isAnchor_6 : decode cX11_isAnchor 6 = .ok (.iconst 0, 1) := by decide +kernel
theorem dX11_isAnchor_7 : decode cX11_isAnchor 7 = .ok (.iaload, 1) := by decide +kernel
theorem dX11_isAnchor_8 : decode cX11_isAnchor 8 = .ok (.iconst 1, 1) := by decide +kernel
theorem dX11_isAnchor_9 : decode cX11_isAnchor 9 = .ok (.isub, 1) := by decide +kernel
theorem dX11_isAnchor_10 : decode cX11_isAnchor 10 = .ok (.invokestatic 75, 3) := by decide +kernel
theorem dX11_isAnchor_13 : decode cX11_isAnchor 13 = .ok (.ireturn, 1) := by decide +kernel
theorem dX11_isLying_0 : decode cX11_isLying 0 = .ok (.aload_n 0, 1) := by decide +kernel
theorem dX11_isLying_1 : decode cX11_isLying 1 = .ok (.getfield 47, 3) := by decide +kernel
theorem dX11_isLying_4 : decode cX11_isLying 4 = .ok (.bipush 24, 2) := by decide +kernel
theorem dX11_isLying_6 : decode cX11_isLying 6 = .ok (.iload_n 1, 1) := by decide +kernel
theorem dX11_isLying_7 : decode cX11_isLying 7 = .ok (.iadd, 1) := by decide +kernel
theorem dX11_isLying_8 : decode cX11_isLying 8 = .ok (.iaload, 1) := by decide +kernel
theorem dX11_isLying_9 : decode cX11_isLying 9 = .ok (.ifCond .ne 7, 3) := by decide +kernel
theorem dX11_isLying_12 : decode cX11_isLying 12 = .ok (.iconst 1, 1) := by decide +kernel
theorem dX11_isLying_13 : decode cX11_isLying 13 = .ok (.goto 4, 3) := by decide +kernel
theorem dX11_isLying_16 : decode cX11_isLying 16 = .ok (.iconst 0, 1) := by decide +kernel
theorem dX11_isLying_17 : decode cX11_isLying 17 = .ok (.ireturn, 1) := by decide +kernel
theorem dX11_those_0 : decode cX11_those 0 = .ok (.iconst 0, 1) := by decide +kernel
theorem dX11_those_1 : decode cX11_those 1 = .ok (.istore_n 2, 1) := by decide +kernel
theorem dX11_those_2 : decode cX11_those 2 = .ok (.iconst 0, 1) := by decide +kernel
theorem dX11_those_3 : decode cX11_those 3 = .ok (.istore_n 3, 1) := by decide +kernel
theorem dX11_those_4 : decode cX11_those 4 = .ok (.iload_n 3, 1) := by decide +kernel
theorem dX11_those_5 : decode cX11_those 5 = .ok (.aload_n 0, 1) := by decide +kernel
theorem dX11_those_6 : decode cX11_those 6 = .ok (.getfield 29, 3) := by decide +kernel
theorem dX11_those_9 : decode cX11_those 9 = .ok (.iconst 0, 1) := by decide +kernel
theorem dX11_those_10 : decode cX11_those 10 = .ok (.iaload, 1) := by decide +kernel
theorem dX11_those_11 : decode cX11_those 11 = .ok (.if_icmp .ge 32, 3) := by decide +kernel
theorem dX11_those_14 : decode cX11_those 14 = .ok (.iload_n 2, 1) := by decide +kernel
theorem dX11_those_15 : decode cX11_those 15 = .ok (.aload_n 0, 1) := by decide +kernel
theorem dX11_those_16 : decode cX11_those 16 = .ok (.getfield 47, 3) := by decide +kernel
theorem dX11_those_19 : decode cX11_those 19 = .ok (.bipush 24, 2) := by decide +kernel
theorem dX11_those_21 : decode cX11_those 21 = .ok (.iload_n 3, 1) := by decide +kernel
theorem dX11_those_22 : decode cX11_those 22 = .ok (.iadd, 1) := by decide +kernel
theorem dX11_those_23 : decode cX11_those 23 = .ok (.iaload, 1) := by decide +kernel
theorem dX11_those_24 : decode cX11_those 24 = .ok (.iload_n 1, 1) := by decide +kernel
theorem dX11_those_25 : decode cX11_those 25 = .ok (.if_icmp .ne 9, 3) := by decide +kernel
theorem dX11_those_28 : decode cX11_those 28 = .ok (.iconst 1, 1) := by decide +kernel
theorem dX11_those_29 : decode cX11_those 29 = .ok (.iload_n 3, 1) := by decide +kernel
theorem dX11_those_30 : decode cX11_those 30 = .ok (.ishl, 1) := by decide +kernel
theorem dX11_those_31 : decode cX11_those 31 = .ok (.goto 4, 3) := by decide +kernel
theorem dX11_those_34 : decode cX11_those 34 = .ok (.iconst 0, 1) := by decide +kernel
theorem dX11_those_35 : decode cX11_those 35 = .ok (.ior, 1) := by decide +kernel
theorem dX11_those_36 : decode cX11_those 36 = .ok (.istore_n 2, 1) := by decide +kernel
theorem dX11_those_37 : decode cX11_those 37 = .ok (.iinc 3 1, 3) := by decide +kernel
theorem dX11_those_40 : decode cX11_those 40 = .ok (.goto (-36), 3) := by decide +kernel
theorem dX11_those_43 : decode cX11_those 43 = .ok (.iload_n 2, 1) := by decide +kernel
theorem dX11_those_44 : decode cX11_those 44 = .ok (.ireturn, 1) := by decide +kernel
theorem dX11_bitsOf_0 : decode cX11_bitsOf 0 = .ok (.iconst 0, 1) := by decide +kernel
theorem dX11_bitsOf_1 : decode cX11_bitsOf 1 = .ok (.istore_n 1, 1) := by decide +kernel
theorem dX11_bitsOf_2 : decode cX11_bitsOf 2 = .ok (.iconst 0, 1) := by decide +kernel
theorem dX11_bitsOf_3 : decode cX11_bitsOf 3 = .ok (.istore_n 2, 1) := by decide +kernel
theorem dX11_bitsOf_4 : decode cX11_bitsOf 4 = .ok (.iload_n 2, 1) := by decide +kernel
theorem dX11_bitsOf_5 : decode cX11_bitsOf 5 = .ok (.bipush 8, 2) := by decide +kernel
theorem dX11_bitsOf_7 : decode cX11_bitsOf 7 = .ok (.if_icmp .ge 17, 3) := by decide +kernel
theorem dX11_bitsOf_10 : decode cX11_bitsOf 10 = .ok (.iload_n 1, 1) := by decide +kernel
theorem dX11_bitsOf_11 : decode cX11_bitsOf 11 = .ok (.iload_n 0, 1) := by decide +kernel
theorem dX11_bitsOf_12 : decode cX11_bitsOf 12 = .ok (.iload_n 2, 1) := by decide +kernel
theorem dX11_bitsOf_13 : decode cX11_bitsOf 13 = .ok (.ishr, 1) := by decide +kernel
theorem dX11_bitsOf_14 : decode cX11_bitsOf 14 = .ok (.iconst 1, 1) := by decide +kernel
theorem dX11_bitsOf_15 : decode cX11_bitsOf 15 = .ok (.iand, 1) := by decide +kernel
theorem dX11_bitsOf_16 : decode cX11_bitsOf 16 = .ok (.iadd, 1) := by decide +kernel
theorem dX11_bitsOf_17 : decode cX11_bitsOf 17 = .ok (.istore_n 1, 1) := by decide +kernel
theorem dX11_bitsOf_18 : decode cX11_bitsOf 18 = .ok (.iinc 2 1, 3) := by decide +kernel
theorem dX11_bitsOf_21 : decode cX11_bitsOf 21 = .ok (.goto (-17), 3) := by decide +kernel
theorem dX11_bitsOf_24 : decode cX11_bitsOf 24 = .ok (.iload_n 1, 1) := by decide +kernel
theorem dX11_bitsOf_25 : decode cX11_bitsOf 25 = .ok (.ireturn, 1) := by decide +kernel
theorem dX11_strengthAt_0 : decode cX11_strengthAt 0 = .ok (.aload_n 0, 1) := by decide +kernel
theorem dX11_strengthAt_1 : decode cX11_strengthAt 1 = .ok (.getfield 38, 3) := by decide +kernel
theorem dX11_strengthAt_4 : decode cX11_strengthAt 4 = .ok (.iload_n 1, 1) := by decide +kernel
theorem dX11_strengthAt_5 : decode cX11_strengthAt 5 = .ok (.iaload, 1) := by decide +kernel
theorem dX11_strengthAt_6 : decode cX11_strengthAt 6 = .ok (.aload_n 0, 1) := by decide +kernel
theorem dX11_strengthAt_7 : decode cX11_strengthAt 7 = .ok (.getfield 17, 3) := by decide +kernel
theorem dX11_strengthAt_10 : decode cX11_strengthAt 10 = .ok (.iload_n 2, 1) := by decide +kernel
theorem dX11_strengthAt_11 : decode cX11_strengthAt 11 = .ok (.iaload, 1) := by decide +kernel
theorem dX11_strengthAt_12 : decode cX11_strengthAt 12 = .ok (.iconst 1, 1) := by decide +kernel
theorem dX11_strengthAt_13 : decode cX11_strengthAt 13 = .ok (.iadd, 1) := by decide +kernel
theorem dX11_strengthAt_14 : decode cX11_strengthAt 14 = .ok (.imul, 1) := by decide +kernel
theorem dX11_strengthAt_15 : decode cX11_strengthAt 15 = .ok (.aload_n 0, 1) := by decide +kernel
theorem dX11_strengthAt_16 : decode cX11_strengthAt 16 = .ok (.getfield 47, 3) := by decide +kernel
theorem dX11_strengthAt_19 : decode cX11_strengthAt 19 = .ok (.bipush 8, 2) := by decide +kernel
theorem dX11_strengthAt_21 : decode cX11_strengthAt 21 = .ok (.iload_n 1, 1) := by decide +kernel
theorem dX11_strengthAt_22 : decode cX11_strengthAt 22 = .ok (.iadd, 1) := by decide +kernel
theorem dX11_strengthAt_23 : decode cX11_strengthAt 23 = .ok (.iaload, 1) := by decide +kernel
theorem dX11_strengthAt_24 : decode cX11_strengthAt 24 = .ok (.aload_n 0, 1) := by decide +kernel
theorem dX11_strengthAt_25 : decode cX11_strengthAt 25 = .ok (.getfield 13, 3) := by decide +kernel
theorem dX11_strengthAt_28 : decode cX11_strengthAt 28 = .ok (.iload_n 2, 1) := by decide +kernel
theorem dX11_strengthAt_29 : decode cX11_strengthAt 29 = .ok (.iaload, 1) := by decide +kernel
theorem dX11_strengthAt_30 : decode cX11_strengthAt 30 = .ok (.idiv, 1) := by decide +kernel
theorem dX11_strengthAt_31 : decode cX11_strengthAt 31 = .ok (.iadd, 1) := by decide +kernel
theorem dX11_strengthAt_32 : decode cX11_strengthAt 32 = .ok (.ireturn, 1) := by decide +kernel
set_option maxRecDepth 20000 in
theorem ggX11_strength_X11_strengthAt : GoodIn wsX11_strength wsX11_strengthAt := goodIn_r _ [6, 7, 8, 1, 9, 10, 11, 12, 13, 14, 15, 16, 17, 18, 19, 20, 21, 22, 23, 24, 25, 26, 27, 28, 29, 30, 31, 32, 33, 34, 35, 36, 37, 38, 39] (by decide +kernel) (by decide +kernel)
set_option maxRecDepth 20000 in
theorem gX11_strength_X11_strengthAt : GoodIn wsX11_strength (wsV RX11 134 RX11 yX11_strengthAt wsX11_strengthAt) := goodIn_app (goodIn_of _ (by decide +kernel)) ggX11_strength_X11_strengthAt
theorem dX11_strength_0 : decode cX11_strength 0 = .ok (.aload_n 0, 1) := by decide +kernel
theorem dX11_strength_1 : decode cX11_strength 1 = .ok (.iload_n 1, 1) := by decide +kernel
theorem dX11_strength_2 : decode cX11_strength 2 = .ok (.aload_n 0, 1) := by decide +kernel
theorem dX11_strength_3 : decode cX11_strength 3 = .ok (.getfield 47, 3) := by decide +kernel
theorem dX11_strength_6 : decode cX11_strength 6 = .ok (.iconst 0, 1) := by decide +kernel
theorem dX11_strength_7 : decode cX11_strength 7 = .ok (.iload_n 1, 1) := by decide +kernel
theorem dX11_strength_8 : decode cX11_strength 8 = .ok (.iadd, 1) := by decide +kernel
theorem dX11_strength_9 : decode cX11_strength 9 = .ok (.iaload, 1) := by decide +kernel
theorem dX11_strength_10 : decode cX11_strength 10 = .ok (.invokevirtual 134, 3) := by decide +kernel
theorem dX11_strength_13 : decode cX11_strength 13 = .ok (.ireturn, 1) := by decide +kernel
set_option maxRecDepth 20000 in
theorem ggX11_hold_X11_isLying : GoodIn wsX11_hold wsX11_isLying := goodIn_r _ [7, 2, 19, 20, 21, 22, 23, 24, 25, 26, 27, 28, 29, 30, 31, 32, 33, 34, 35, 36, 37, 38, 39, 40, 41, 42, 43, 44, 45, 46, 47, 48] (by decide +kernel) (by decide +kernel)
set_option maxRecDepth 20000 in
theorem gX11_hold_X11_isLying : GoodIn wsX11_hold (wsV RX11 137 RX11 yX11_isLying wsX11_isLying) := goodIn_app (goodIn_of _ (by decide +kernel)) ggX11_hold_X11_isLying
set_option maxRecDepth 20000 in
theorem ggX11_hold_X11_strength : GoodIn wsX11_hold wsX11_strength := goodIn_r _ [11, 2, 12, 13, 14, 6, 15, 16, 17, 18, 19, 20, 21, 22, 23, 24, 25, 26, 27, 28, 29, 30, 31, 32, 33, 34, 35, 36, 37, 38, 39, 40, 41, 42, 43, 44, 45, 46, 47, 48] (by decide +kernel) (by decide +kernel)
set_option maxRecDepth 20000 in
theorem gX11_hold_X11_strength : GoodIn wsX11_hold (wsV RX11 140 RX11 yX11_strength wsX11_strength) := goodIn_app (goodIn_of _ (by decide +kernel)) ggX11_hold_X11_strength
theorem dX11_hold_0 : decode cX11_hold 0 = .ok (.iconst 0, 1) := by decide +kernel
theorem dX11_hold_1 : decode cX11_hold 1 = .ok (.istore_n 2, 1) := by decide +kernel
theorem dX11_hold_2 : decode cX11_hold 2 = .ok (.iconst 0, 1) := by decide +kernel
theorem dX11_hold_3 : decode cX11_hold 3 = .ok (.istore_n 3, 1) := by decide +kernel
theorem dX11_hold_4 : decode cX11_hold 4 = .ok (.iload_n 3, 1) := by decide +kernel
theorem dX11_hold_5 : decode cX11_hold 5 = .ok (.aload_n 0, 1) := by decide +kernel
theorem dX11_hold_6 : decode cX11_hold 6 = .ok (.getfield 29, 3) := by decide +kernel
theorem dX11_hold_9 : decode cX11_hold 9 = .ok (.iconst 0, 1) := by decide +kernel
theorem dX11_hold_10 : decode cX11_hold 10 = .ok (.iaload, 1) := by decide +kernel
theorem dX11_hold_11 : decode cX11_hold 11 = .ok (.if_icmp .ge 48, 3) := by decide +kernel
theorem dX11_hold_14 : decode cX11_hold 14 = .ok (.iload_n 2, 1) := by decide +kernel
theorem dX11_hold_15 : decode cX11_hold 15 = .ok (.aload_n 0, 1) := by decide +kernel
theorem dX11_hold_16 : decode cX11_hold 16 = .ok (.iload_n 3, 1) := by decide +kernel
theorem dX11_hold_17 : decode cX11_hold 17 = .ok (.invokevirtual 137, 3) := by decide +kernel
theorem dX11_hold_20 : decode cX11_hold 20 = .ok (.ifCond .eq 30, 3) := by decide +kernel
theorem dX11_hold_23 : decode cX11_hold 23 = .ok (.aload_n 0, 1) := by decide +kernel
theorem dX11_hold_24 : decode cX11_hold 24 = .ok (.getfield 47, 3) := by decide +kernel
theorem dX11_hold_27 : decode cX11_hold 27 = .ok (.iconst 0, 1) := by decide +kernel
theorem dX11_hold_28 : decode cX11_hold 28 = .ok (.iload_n 3, 1) := by decide +kernel
theorem dX11_hold_29 : decode cX11_hold 29 = .ok (.iadd, 1) := by decide +kernel
theorem dX11_hold_30 : decode cX11_hold 30 = .ok (.iaload, 1) := by decide +kernel
theorem dX11_hold_31 : decode cX11_hold 31 = .ok (.aload_n 0, 1) := by decide +kernel
theorem dX11_hold_32 : decode cX11_hold 32 = .ok (.getfield 47, 3) := by decide +kernel
theorem dX11_hold_35 : decode cX11_hold 35 = .ok (.iconst 0, 1) := by decide +kernel
theorem dX11_hold_36 : decode cX11_hold 36 = .ok (.iload_n 1, 1) := by decide +kernel
theorem dX11_hold_37 : decode cX11_hold 37 = .ok (.iadd, 1) := by decide +kernel
theorem dX11_hold_38 : decode cX11_hold 38 = .ok (.iaload, 1) := by decide +kernel
theorem dX11_hold_39 : decode cX11_hold 39 = .ok (.if_icmp .ne 11, 3) := by decide +kernel
theorem dX11_hold_42 : decode cX11_hold 42 = .ok (.aload_n 0, 1) := by decide +kernel
theorem dX11_hold_43 : decode cX11_hold 43 = .ok (.iload_n 3, 1) := by decide +kernel
theorem dX11_hold_44 : decode cX11_hold 44 = .ok (.invokevirtual 140, 3) := by decide +kernel
theorem dX11_hold_47 : decode cX11_hold 47 = .ok (.goto 4, 3) := by decide +kernel
theorem dX11_hold_50 : decode cX11_hold 50 = .ok (.iconst 0, 1) := by decide +kernel
theorem dX11_hold_51 : decode cX11_hold 51 = .ok (.iadd, 1) := by decide +kernel
theorem dX11_hold_52 : decode cX11_hold 52 = .ok (.istore_n 2, 1) := by decide +kernel
theorem dX11_hold_53 : decode cX11_hold 53 = .ok (.iinc 3 1, 3) := by decide +kernel
theorem dX11_hold_56 : decode cX11_hold 56 = .ok (.goto (-52), 3) := by decide +kernel
theorem dX11_hold_59 : decode cX11_hold 59 = .ok (.iload_n 2, 1) := by decide +kernel
theorem dX11_hold_60 : decode cX11_hold 60 = .ok (.ireturn, 1) := by decide +kernel
set_option maxRecDepth 20000 in
theorem ggX11_whose_X11_has : GoodIn wsX11_whose wsX11_has := goodIn_r _ [6] (by decide +kernel) (by decide +kernel)
set_option maxRecDepth 20000 in
theorem gX11_whose_X11_has : GoodIn wsX11_whose (va_wsS RX11 144 yX11_has wsX11_has) := goodIn_app (goodIn_of _ (by decide +kernel)) ggX11_whose_X11_has
theorem dX11_whose_0 : decode cX11_whose 0 = .ok (.aload_n 0, 1) := by decide +kernel
theorem dX11_whose_1 : decode cX11_whose 1 = .ok (.getfield 32, 3) := by decide +kernel
theorem dX11_whose_4 : decode cX11_whose 4 = .ok (.iload_n 1, 1) := by decide +kernel
theorem dX11_whose_5 : decode cX11_whose 5 = .ok (.iaload, 1) := by decide +kernel
theorem dX11_whose_6 : decode cX11_whose 6 = .ok (.istore_n 2, 1) := by decide +kernel
theorem dX11_whose_7 : decode cX11_whose 7 = .ok (.iconst 0, 1) := by decide +kernel
theorem dX11_whose_8 : decode cX11_whose 8 = .ok (.istore_n 3, 1) := by decide +kernel
theorem dX11_whose_9 : decode cX11_whose 9 = .ok (.iload_n 3, 1) := by decide +kernel
theorem dX11_whose_10 : decode cX11_whose 10 = .ok (.bipush 6, 2) := by decide +kernel
theorem dX11_whose_12 : decode cX11_whose 12 = .ok (.if_icmp .ge 33, 3) := by decide +kernel
theorem dX11_whose_15 : decode cX11_whose 15 = .ok (.aload_n 0, 1) := by decide +kernel
theorem dX11_whose_16 : decode cX11_whose 16 = .ok (.getfield 47, 3) := by decide +kernel
theorem dX11_whose_19 : decode cX11_whose 19 = .ok (.bipush 32, 2) := by decide +kernel
theorem dX11_whose_21 : decode cX11_whose 21 = .ok (.iaload, 1) := by decide +kernel
theorem dX11_whose_22 : decode cX11_whose 22 = .ok (.iload_n 2, 1) := by decide +kernel
theorem dX11_whose_23 : decode cX11_whose 23 = .ok (.invokestatic 144, 3) := by decide +kernel
theorem dX11_whose_26 : decode cX11_whose 26 = .ok (.ifCond .eq 19, 3) := by decide +kernel
theorem dX11_whose_29 : decode cX11_whose 29 = .ok (.aload_n 0, 1) := by decide +kernel
theorem dX11_whose_30 : decode cX11_whose 30 = .ok (.getfield 47, 3) := by decide +kernel
theorem dX11_whose_33 : decode cX11_whose 33 = .ok (.bipush 33, 2) := by decide +kernel
theorem dX11_whose_35 : decode cX11_whose 35 = .ok (.iload_n 2, 1) := by decide +kernel
theorem dX11_whose_36 : decode cX11_whose 36 = .ok (.iadd, 1) := by decide +kernel
theorem dX11_whose_37 : decode cX11_whose 37 = .ok (.iaload, 1) := by decide +kernel
theorem dX11_whose_38 : decode cX11_whose 38 = .ok (.istore_n 2, 1) := by decide +kernel
theorem dX11_whose_39 : decode cX11_whose 39 = .ok (.iinc 3 1, 3) := by decide +kernel
theorem dX11_whose_42 : decode cX11_whose 42 = .ok (.goto (-33), 3) := by decide +kernel
theorem dX11_whose_45 : decode cX11_whose 45 = .ok (.aload_n 0, 1) := by decide +kernel
theorem dX11_whose_46 : decode cX11_whose 46 = .ok (.getfield 47, 3) := by decide +kernel
theorem dX11_whose_49 : decode cX11_whose 49 = .ok (.bipush 32, 2) := by decide +kernel
theorem dX11_whose_51 : decode cX11_whose 51 = .ok (.iaload, 1) := by decide +kernel
theorem dX11_whose_52 : decode cX11_whose 52 = .ok (.iload_n 2, 1) := by decide +kernel
theorem dX11_whose_53 : decode cX11_whose 53 = .ok (.invokestatic 144, 3) := by decide +kernel
theorem dX11_whose_56 : decode cX11_whose 56 = .ok (.ifCond .eq 8, 3) := by decide +kernel
theorem dX11_whose_59 : decode cX11_whose 59 = .ok (.bipush (-9), 2) := by decide +kernel
theorem dX11_whose_61 : decode cX11_whose 61 = .ok (.goto 4, 3) := by decide +kernel
theorem dX11_whose_64 : decode cX11_whose 64 = .ok (.iload_n 2, 1) := by decide +kernel
theorem dX11_whose_65 : decode cX11_whose 65 = .ok (.ireturn, 1) := by decide +kernel
theorem dX11_leftOf_0 : decode cX11_leftOf 0 = .ok (.aload_n 0, 1) := by decide +kernel
theorem dX11_leftOf_1 : decode cX11_leftOf 1 = .ok (.getfield 44, 3) := by decide +kernel
theorem dX11_leftOf_4 : decode cX11_leftOf 4 = .ok (.iload_n 1, 1) := by decide +kernel
theorem dX11_leftOf_5 : decode cX11_leftOf 5 = .ok (.iaload, 1) := by decide +kernel
theorem dX11_leftOf_6 : decode cX11_leftOf 6 = .ok (.aload_n 0, 1) := by decide +kernel
theorem dX11_leftOf_7 : decode cX11_leftOf 7 = .ok (.getfield 47, 3) := by decide +kernel
theorem dX11_leftOf_10 : decode cX11_leftOf 10 = .ok (.bipush 16, 2) := by decide +kernel
theorem dX11_leftOf_12 : decode cX11_leftOf 12 = .ok (.iload_n 1, 1) := by decide +kernel
theorem dX11_leftOf_13 : decode cX11_leftOf 13 = .ok (.iadd, 1) := by decide +kernel
theorem dX11_leftOf_14 : decode cX11_leftOf 14 = .ok (.iaload, 1) := by decide +kernel
theorem dX11_leftOf_15 : decode cX11_leftOf 15 = .ok (.if_icmp .le 22, 3) := by decide +kernel
theorem dX11_leftOf_18 : decode cX11_leftOf 18 = .ok (.aload_n 0, 1) := by decide +kernel
theorem dX11_leftOf_19 : decode cX11_leftOf 19 = .ok (.getfield 44, 3) := by decide +kernel
theorem dX11_leftOf_22 : decode cX11_leftOf 22 = .ok (.iload_n 1, 1) := by decide +kernel
theorem dX11_leftOf_23 : decode cX11_leftOf 23 = .ok (.iaload, 1) := by decide +kernel
theorem dX11_leftOf_24 : decode cX11_leftOf 24 = .ok (.aload_n 0, 1) := by decide +kernel
theorem dX11_leftOf_25 : decode cX11_leftOf 25 = .ok (.getfield 47, 3) := by decide +kernel
theorem dX11_leftOf_28 : decode cX11_leftOf 28 = .ok (.bipush 16, 2) := by decide +kernel
theorem dX11_leftOf_30 : decode cX11_leftOf 30 = .ok (.iload_n 1, 1) := by decide +kernel
theorem dX11_leftOf_31 : decode cX11_leftOf 31 = .ok (.iadd, 1) := by decide +kernel
theorem dX11_leftOf_32 : decode cX11_leftOf 32 = .ok (.iaload, 1) := by decide +kernel
theorem dX11_leftOf_33 : decode cX11_leftOf 33 = .ok (.isub, 1) := by decide +kernel
theorem dX11_leftOf_34 : decode cX11_leftOf 34 = .ok (.goto 4, 3) := by decide +kernel
theorem dX11_leftOf_37 : decode cX11_leftOf 37 = .ok (.iconst 0, 1) := by decide +kernel
theorem dX11_leftOf_38 : decode cX11_leftOf 38 = .ok (.ireturn, 1) := by decide +kernel
set_option maxRecDepth 20000 in
theorem ggX11_cell_X11_in : GoodIn wsX11_cell wsX11_in := goodIn_r _ [8] (by decide +kernel) (by decide +kernel)
set_option maxRecDepth 20000 in
theorem gX11_cell_X11_in : GoodIn wsX11_cell (va_wsS RX11 75 yX11_in wsX11_in) := goodIn_app (goodIn_of _ (by decide +kernel)) ggX11_cell_X11_in
set_option maxRecDepth 20000 in
theorem ggX11_cell_X11_isLying : GoodIn wsX11_cell wsX11_isLying := goodIn_r _ [12, 4, 13, 14, 15, 16, 17, 18, 19, 20, 21, 22, 23, 24, 25, 26, 27, 28, 29, 30, 31, 32, 33, 34, 35, 36, 37, 38, 39, 40, 41, 42] (by decide +kernel) (by decide +kernel)
set_option maxRecDepth 20000 in
theorem gX11_cell_X11_isLying : GoodIn wsX11_cell (wsV RX11 137 RX11 yX11_isLying wsX11_isLying) := goodIn_app (goodIn_of _ (by decide +kernel)) ggX11_cell_X11_isLying
theorem dX11_cell_0 : decode cX11_cell 0 = .ok (.iload_n 1, 1) := by decide +kernel
theorem dX11_cell_1 : decode cX11_cell 1 = .ok (.iconst 0, 1) := by decide +kernel
theorem dX11_cell_2 : decode cX11_cell 2 = .ok (.bipush 9, 2) := by decide +kernel
theorem dX11_cell_4 : decode cX11_cell 4 = .ok (.invokestatic 75, 3) := by decide +kernel
theorem dX11_cell_7 : decode cX11_cell 7 = .ok (.ifCond .ne 5, 3) := by decide +kernel
theorem dX11_cell_10 : decode cX11_cell 10 = .ok (.iconst (-1), 1) := by decide +kernel
theorem dX11_cell_11 : decode cX11_cell 11 = .ok (.ireturn, 1) := by decide +kernel
theorem dX11_cell_12 : decode cX11_cell 12 = .ok (.iconst 0, 1) := by decide +kernel
theorem dX11_cell_13 : decode cX11_cell 13 = .ok (.istore_n 3, 1) := by decide +kernel
theorem dX11_cell_14 : decode cX11_cell 14 = .ok (.iload_n 2, 1) := by decide +kernel
theorem dX11_cell_15 : decode cX11_cell 15 = .ok (.tableswitch 94 0 2 #[25, 32, 39], 25) := by decide +kernel
theorem dX11_cell_40 : decode cX11_cell 40 = .ok (.aload_n 0, 1) := by decide +kernel
theorem dX11_cell_41 : decode cX11_cell 41 = .ok (.getfield 13, 3) := by decide +kernel
theorem dX11_cell_44 : decode cX11_cell 44 = .ok (.iload_n 1, 1) := by decide +kernel
theorem dX11_cell_45 : decode cX11_cell 45 = .ok (.iaload, 1) := by decide +kernel
theorem dX11_cell_46 : decode cX11_cell 46 = .ok (.ireturn, 1) := by decide +kernel
theorem dX11_cell_47 : decode cX11_cell 47 = .ok (.aload_n 0, 1) := by decide +kernel
theorem dX11_cell_48 : decode cX11_cell 48 = .ok (.getfield 17, 3) := by decide +kernel
theorem dX11_cell_51 : decode cX11_cell 51 = .ok (.iload_n 1, 1) := by decide +kernel
theorem dX11_cell_52 : decode cX11_cell 52 = .ok (.iaload, 1) := by decide +kernel
theorem dX11_cell_53 : decode cX11_cell 53 = .ok (.ireturn, 1) := by decide +kernel
theorem dX11_cell_54 : decode cX11_cell 54 = .ok (.iconst 0, 1) := by decide +kernel
theorem dX11_cell_55 : decode cX11_cell 55 = .ok (.istore 4, 2) := by decide +kernel
theorem dX11_cell_57 : decode cX11_cell 57 = .ok (.iload 4, 2) := by decide +kernel
theorem dX11_cell_59 : decode cX11_cell 59 = .ok (.aload_n 0, 1) := by decide +kernel
theorem dX11_cell_60 : decode cX11_cell 60 = .ok (.getfield 29, 3) := by decide +kernel
theorem dX11_cell_63 : decode cX11_cell 63 = .ok (.iconst 0, 1) := by decide +kernel
theorem dX11_cell_64 : decode cX11_cell 64 = .ok (.iaload, 1) := by decide +kernel
theorem dX11_cell_65 : decode cX11_cell 65 = .ok (.if_icmp .ge 42, 3) := by decide +kernel
theorem dX11_cell_68 : decode cX11_cell 68 = .ok (.iload_n 3, 1) := by decide +kernel
theorem dX11_cell_69 : decode cX11_cell 69 = .ok (.aload_n 0, 1) := by decide +kernel
theorem dX11_cell_70 : decode cX11_cell 70 = .ok (.iload 4, 2) := by decide +kernel
theorem dX11_cell_72 : decode cX11_cell 72 = .ok (.invokevirtual 137, 3) := by decide +kernel
theorem dX11_cell_75 : decode cX11_cell 75 = .ok (.ifCond .eq 23, 3) := by decide +kernel
theorem dX11_cell_78 : decode cX11_cell 78 = .ok (.aload_n 0, 1) := by decide +kernel
theorem dX11_cell_79 : decode cX11_cell 79 = .ok (.getfield 47, 3) := by decide +kernel
theorem dX11_cell_82 : decode cX11_cell 82 = .ok (.iconst 0, 1) := by decide +kernel
theorem dX11_cell_83 : decode cX11_cell 83 = .ok (.iload 4, 2) := by decide +kernel
theorem dX11_cell_85 : decode cX11_cell 85 = .ok (.iadd, 1) := by decide +kernel
theorem dX11_cell_86 : decode cX11_cell 86 = .ok (.iaload, 1) := by decide +kernel
theorem dX11_cell_87 : decode cX11_cell 87 = .ok (.iload_n 1, 1) := by decide +kernel
theorem dX11_cell_88 : decode cX11_cell 88 = .ok (.if_icmp .ne 10, 3) := by decide +kernel
theorem dX11_cell_91 : decode cX11_cell 91 = .ok (.iconst 1, 1) := by decide +kernel
theorem dX11_cell_92 : decode cX11_cell 92 = .ok (.iload 4, 2) := by decide +kernel
theorem dX11_cell_94 : decode cX11_cell 94 = .ok (.ishl, 1) := by decide +kernel
theorem dX11_cell_95 : decode cX11_cell 95 = .ok (.goto 4, 3) := by decide +kernel
theorem dX11_cell_98 : decode cX11_cell 98 = .ok (.iconst 0, 1) := by decide +kernel
theorem dX11_cell_99 : decode cX11_cell 99 = .ok (.ior, 1) := by decide +kernel
theorem dX11_cell_100 : decode cX11_cell 100 = .ok (.istore_n 3, 1) := by decide +kernel
theorem dX11_cell_101 : decode cX11_cell 101 = .ok (.iinc 4 1, 3) := by decide +kernel
theorem dX11_cell_104 : decode cX11_cell 104 = .ok (.goto (-47), 3) := by decide +kernel
theorem dX11_cell_107 : decode cX11_cell 107 = .ok (.iload_n 3, 1) := by decide +kernel
theorem dX11_cell_108 : decode cX11_cell 108 = .ok (.ireturn, 1) := by decide +kernel
theorem dX11_cell_109 : decode cX11_cell 109 = .ok (.iconst (-1), 1) := by decide +kernel
theorem dX11_cell_110 : decode cX11_cell 110 = .ok (.ireturn, 1) := by decide +kernel
set_option maxRecDepth 20000 in
theorem ggX11_estate_X11_isLying : GoodIn wsX11_estate wsX11_isLying := goodIn_r _ [6, 7, 21, 22, 23, 24, 25, 26, 27, 28, 29, 30, 31, 32, 33, 34, 35, 36, 37, 38, 39, 40, 41, 42, 43, 44, 45, 46, 47, 48, 49, 50] (by decide +kernel) (by decide +kernel)
set_option maxRecDepth 20000 in
theorem gX11_estate_X11_isLying : GoodIn wsX11_estate (wsV RX11 137 RX11 yX11_isLying wsX11_isLying) := goodIn_app (goodIn_of _ (by decide +kernel)) ggX11_estate_X11_isLying
set_option maxRecDepth 20000 in
theorem ggX11_estate_X11_whose : GoodIn wsX11_estate wsX11_whose := goodIn_r _ [11, 12, 7, 13, 14, 5, 15, 21, 22, 23, 24, 25, 26, 27, 28, 29, 30, 31, 32, 33, 34, 35, 36, 37, 38, 39, 40, 41, 42, 43, 44, 45, 46, 47, 48, 49, 50] (by decide +kernel) (by decide +kernel)
set_option maxRecDepth 20000 in
theorem gX11_estate_X11_whose : GoodIn wsX11_estate (wsV RX11 148 RX11 yX11_whose wsX11_whose) := goodIn_app (goodIn_of _ (by decide +kernel)) ggX11_estate_X11_whose
set_option maxRecDepth 20000 in
theorem ggX11_estate_X11_leftOf : GoodIn wsX11_estate wsX11_leftOf := goodIn_r _ [19, 20, 7, 21, 22, 23, 24, 25, 26, 27, 28, 29, 30, 31, 32, 33, 34, 35, 36, 37, 38, 39, 40, 41, 42, 43, 44, 45, 46, 47, 48, 49, 50] (by decide +kernel) (by decide +kernel)
set_option maxRecDepth 20000 in
theorem gX11_estate_X11_leftOf : GoodIn wsX11_estate (wsV RX11 151 RX11 yX11_leftOf wsX11_leftOf) := goodIn_app (goodIn_of _ (by decide +kernel)) ggX11_estate_X11_leftOf
theorem dX11_estate_0 : decode cX11_estate 0 = .ok (.iconst 0, 1) := by decide +kernel
theorem dX11_estate_1 : decode cX11_estate 1 = .ok (.istore_n 2, 1) := by decide +kernel
theorem dX11_estate_2 : decode cX11_estate 2 = .ok (.iconst 0, 1) := by decide +kernel
theorem dX11_estate_3 : decode cX11_estate 3 = .ok (.istore_n 3, 1) := by decide +kernel
theorem dX11_estate_4 : decode cX11_estate 4 = .ok (.iload_n 3, 1) := by decide +kernel
theorem dX11_estate_5 : decode cX11_estate 5 = .ok (.aload_n 0, 1) := by decide +kernel
theorem dX11_estate_6 : decode cX11_estate 6 = .ok (.getfield 29, 3) := by decide +kernel
theorem dX11_estate_9 : decode cX11_estate 9 = .ok (.iconst 0, 1) := by decide +kernel
theorem dX11_estate_10 : decode cX11_estate 10 = .ok (.iaload, 1) := by decide +kernel
theorem dX11_estate_11 : decode cX11_estate 11 = .ok (.if_icmp .ge 38, 3) := by decide +kernel
theorem dX11_estate_14 : decode cX11_estate 14 = .ok (.iload_n 2, 1) := by decide +kernel
theorem dX11_estate_15 : decode cX11_estate 15 = .ok (.aload_n 0, 1) := by decide +kernel
theorem dX11_estate_16 : decode cX11_estate 16 = .ok (.iload_n 3, 1) := by decide +kernel
theorem dX11_estate_17 : decode cX11_estate 17 = .ok (.invokevirtual 137, 3) := by decide +kernel
theorem dX11_estate_20 : decode cX11_estate 20 = .ok (.ifCond .eq 20, 3) := by decide +kernel
theorem dX11_estate_23 : decode cX11_estate 23 = .ok (.aload_n 0, 1) := by decide +kernel
theorem dX11_estate_24 : decode cX11_estate 24 = .ok (.iload_n 3, 1) := by decide +kernel
theorem dX11_estate_25 : decode cX11_estate 25 = .ok (.invokevirtual 148, 3) := by decide +kernel
theorem dX11_estate_28 : decode cX11_estate 28 = .ok (.iload_n 1, 1) := by decide +kernel
theorem dX11_estate_29 : decode cX11_estate 29 = .ok (.if_icmp .ne 11, 3) := by decide +kernel
theorem dX11_estate_32 : decode cX11_estate 32 = .ok (.aload_n 0, 1) := by decide +kernel
theorem dX11_estate_33 : decode cX11_estate 33 = .ok (.iload_n 3, 1) := by decide +kernel
theorem dX11_estate_34 : decode cX11_estate 34 = .ok (.invokevirtual 151, 3) := by decide +kernel
theorem dX11_estate_37 : decode cX11_estate 37 = .ok (.goto 4, 3) := by decide +kernel
theorem dX11_estate_40 : decode cX11_estate 40 = .ok (.iconst 0, 1) := by decide +kernel
theorem dX11_estate_41 : decode cX11_estate 41 = .ok (.iadd, 1) := by decide +kernel
theorem dX11_estate_42 : decode cX11_estate 42 = .ok (.istore_n 2, 1) := by decide +kernel
theorem dX11_estate_43 : decode cX11_estate 43 = .ok (.iinc 3 1, 3) := by decide +kernel
theorem dX11_estate_46 : decode cX11_estate 46 = .ok (.goto (-42), 3) := by decide +kernel
theorem dX11_estate_49 : decode cX11_estate 49 = .ok (.iload_n 2, 1) := by decide +kernel
theorem dX11_estate_50 : decode cX11_estate 50 = .ok (.ireturn, 1) := by decide +kernel
set_option maxRecDepth 20000 in
theorem ggX11_townOf_X11_has : GoodIn wsX11_townOf wsX11_has := goodIn_r _ [6] (by decide +kernel) (by decide +kernel)
set_option maxRecDepth 20000 in
theorem gX11_townOf_X11_has : GoodIn wsX11_townOf (va_wsS RX11 144 yX11_has wsX11_has) := goodIn_app (goodIn_of _ (by decide +kernel)) ggX11_townOf_X11_has
theorem dX11_townOf_0 : decode cX11_townOf 0 = .ok (.iconst 1, 1) := by decide +kernel
theorem dX11_townOf_1 : decode cX11_townOf 1 = .ok (.iload_n 1, 1) := by decide +kernel
theorem dX11_townOf_2 : decode cX11_townOf 2 = .ok (.ishl, 1) := by decide +kernel
theorem dX11_townOf_3 : decode cX11_townOf 3 = .ok (.istore_n 2, 1) := by decide +kernel
theorem dX11_townOf_4 : decode cX11_townOf 4 = .ok (.iconst 0, 1) := by decide +kernel
theorem dX11_townOf_5 : decode cX11_townOf 5 = .ok (.istore_n 3, 1) := by decide +kernel
theorem dX11_townOf_6 : decode cX11_townOf 6 = .ok (.iload_n 3, 1) := by decide +kernel
theorem dX11_townOf_7 : decode cX11_townOf 7 = .ok (.bipush 6, 2) := by decide +kernel
theorem dX11_townOf_9 : decode cX11_townOf 9 = .ok (.if_icmp .ge 52, 3) := by decide +kernel
theorem dX11_townOf_12 : decode cX11_townOf 12 = .ok (.iconst 0, 1) := by decide +kernel
theorem dX11_townOf_13 : decode cX11_townOf 13 = .ok (.istore 4, 2) := by decide +kernel
theorem dX11_townOf_15 : decode cX11_townOf 15 = .ok (.iload 4, 2) := by decide +kernel
theorem dX11_townOf_17 : decode cX11_townOf 17 = .ok (.aload_n 0, 1) := by decide +kernel
theorem dX11_townOf_18 : decode cX11_townOf 18 = .ok (.getfield 20, 3) := by decide +kernel
theorem dX11_townOf_21 : decode cX11_townOf 21 = .ok (.iconst 0, 1) := by decide +kernel
theorem dX11_townOf_22 : decode cX11_townOf 22 = .ok (.iaload, 1) := by decide +kernel
theorem dX11_townOf_23 : decode cX11_townOf 23 = .ok (.if_icmp .ge 32, 3) := by decide +kernel
theorem dX11_townOf_26 : decode cX11_townOf 26 = .ok (.iload_n 2, 1) := by decide +kernel
theorem dX11_townOf_27 : decode cX11_townOf 27 = .ok (.iload_n 2, 1) := by decide +kernel
theorem dX11_townOf_28 : decode cX11_townOf 28 = .ok (.iload 4, 2) := by decide +kernel
theorem dX11_townOf_30 : decode cX11_townOf 30 = .ok (.invokestatic 144, 3) := by decide +kernel
theorem dX11_townOf_33 : decode cX11_townOf 33 = .ok (.ifCond .eq 13, 3) := by decide +kernel
theorem dX11_townOf_36 : decode cX11_townOf 36 = .ok (.aload_n 0, 1) := by decide +kernel
theorem dX11_townOf_37 : decode cX11_townOf 37 = .ok (.getfield 26, 3) := by decide +kernel
theorem dX11_townOf_40 : decode cX11_townOf 40 = .ok (.iload 4, 2) := by decide +kernel
theorem dX11_townOf_42 : decode cX11_townOf 42 = .ok (.iaload, 1) := by decide +kernel
theorem dX11_townOf_43 : decode cX11_townOf 43 = .ok (.goto 4, 3) := by decide +kernel
theorem dX11_townOf_46 : decode cX11_townOf 46 = .ok (.iconst 0, 1) := by decide +kernel
theorem dX11_townOf_47 : decode cX11_townOf 47 = .ok (.ior, 1) := by decide +kernel
theorem dX11_townOf_48 : decode cX11_townOf 48 = .ok (.istore_n 2, 1) := by decide +kernel
theorem dX11_townOf_49 : decode cX11_townOf 49 = .ok (.iinc 4 1, 3) := by decide +kernel
theorem dX11_townOf_52 : decode cX11_townOf 52 = .ok (.goto (-37), 3) := by decide +kernel
theorem dX11_townOf_55 : decode cX11_townOf 55 = .ok (.iinc 3 1, 3) := by decide +kernel
theorem dX11_townOf_58 : decode cX11_townOf 58 = .ok (.goto (-52), 3) := by decide +kernel
theorem dX11_townOf_61 : decode cX11_townOf 61 = .ok (.iload_n 2, 1) := by decide +kernel
theorem dX11_townOf_62 : decode cX11_townOf 62 = .ok (.ireturn, 1) := by decide +kernel
set_option maxRecDepth 20000 in
theorem ggX11_might_X11_townOf : GoodIn wsX11_might wsX11_townOf := goodIn_r _ [7, 8, 9, 10, 11, 6, 12, 29, 30, 31, 32, 33, 34, 35, 36, 37, 38, 39, 40, 41, 42, 43, 44, 45, 46, 47, 48, 49, 50, 51, 52, 53, 54, 55, 56, 57, 58] (by decide +kernel) (by decide +kernel)
set_option maxRecDepth 20000 in
theorem gX11_might_X11_townOf : GoodIn wsX11_might (wsV RX11 154 RX11 yX11_townOf wsX11_townOf) := goodIn_app (goodIn_of _ (by decide +kernel)) ggX11_might_X11_townOf
set_option maxRecDepth 20000 in
theorem ggX11_might_X11_isLying : GoodIn wsX11_might wsX11_isLying := goodIn_r _ [16, 17, 29, 30, 31, 32, 33, 34, 35, 36, 37, 38, 39, 40, 41, 42, 43, 44, 45, 46, 47, 48, 49, 50, 51, 52, 53, 54, 55, 56, 57, 58] (by decide +kernel) (by decide +kernel)
set_option maxRecDepth 20000 in
theorem gX11_might_X11_isLying : GoodIn wsX11_might (wsV RX11 137 RX11 yX11_isLying wsX11_isLying) := goodIn_app (goodIn_of _ (by decide +kernel)) ggX11_might_X11_isLying
set_option maxRecDepth 20000 in
theorem ggX11_might_X11_has : GoodIn wsX11_might wsX11_has := goodIn_r _ [12] (by decide +kernel) (by decide +kernel)
set_option maxRecDepth 20000 in
theorem gX11_might_X11_has : GoodIn wsX11_might (va_wsS RX11 144 yX11_has wsX11_has) := goodIn_app (goodIn_of _ (by decide +kernel)) ggX11_might_X11_has
set_option maxRecDepth 20000 in
theorem ggX11_might_X11_strength : GoodIn wsX11_might wsX11_strength := goodIn_r _ [21, 17, 22, 23, 24, 6, 25, 26, 27, 28, 29, 30, 31, 32, 33, 34, 35, 36, 37, 38, 39, 40, 41, 42, 43, 44, 45, 46, 47, 48, 49, 50, 51, 52, 53, 54, 55, 56, 57, 58] (by decide +kernel) (by decide +kernel)
set_option maxRecDepth 20000 in
theorem gX11_might_X11_strength : GoodIn wsX11_might (wsV RX11 140 RX11 yX11_strength wsX11_strength) := goodIn_app (goodIn_of _ (by decide +kernel)) ggX11_might_X11_strength
theorem dX11_might_0 : decode cX11_might 0 = .ok (.aload_n 0, 1) := by decide +kernel
theorem dX11_might_1 : decode cX11_might 1 = .ok (.iload_n 1, 1) := by decide +kernel
theorem dX11_might_2 : decode cX11_might 2 = .ok (.invokevirtual 154, 3) := by decide +kernel
theorem dX11_might_5 : decode cX11_might 5 = .ok (.istore_n 2, 1) := by decide +kernel
theorem dX11_might_6 : decode cX11_might 6 = .ok (.iconst 0, 1) := by decide +kernel
theorem dX11_might_7 : decode cX11_might 7 = .ok (.istore_n 3, 1) := by decide +kernel
theorem dX11_might_8 : decode cX11_might 8 = .ok (.iconst 0, 1) := by decide +kernel
theorem dX11_might_9 : decode cX11_might 9 = .ok (.istore 4, 2) := by decide +kernel
theorem dX11_might_11 : decode cX11_might 11 = .ok (.iload 4, 2) := by decide +kernel
theorem dX11_might_13 : decode cX11_might 13 = .ok (.aload_n 0, 1) := by decide +kernel
theorem dX11_might_14 : decode cX11_might 14 = .ok (.getfield 29, 3) := by decide +kernel
theorem dX11_might_17 : decode cX11_might 17 = .ok (.iconst 0, 1) := by decide +kernel
theorem dX11_might_18 : decode cX11_might 18 = .ok (.iaload, 1) := by decide +kernel
theorem dX11_might_19 : decode cX11_might 19 = .ok (.if_icmp .ge 45, 3) := by decide +kernel
theorem dX11_might_22 : decode cX11_might 22 = .ok (.iload_n 3, 1) := by decide +kernel
theorem dX11_might_23 : decode cX11_might 23 = .ok (.aload_n 0, 1) := by decide +kernel
theorem dX11_might_24 : decode cX11_might 24 = .ok (.iload 4, 2) := by decide +kernel
theorem dX11_might_26 : decode cX11_might 26 = .ok (.invokevirtual 137, 3) := by decide +kernel
theorem dX11_might_29 : decode cX11_might 29 = .ok (.ifCond .eq 26, 3) := by decide +kernel
theorem dX11_might_32 : decode cX11_might 32 = .ok (.iload_n 2, 1) := by decide +kernel
theorem dX11_might_33 : decode cX11_might 33 = .ok (.aload_n 0, 1) := by decide +kernel
theorem dX11_might_34 : decode cX11_might 34 = .ok (.getfield 32, 3) := by decide +kernel
theorem dX11_might_37 : decode cX11_might 37 = .ok (.iload 4, 2) := by decide +kernel
theorem dX11_might_39 : decode cX11_might 39 = .ok (.iaload, 1) := by decide +kernel
theorem dX11_might_40 : decode cX11_might 40 = .ok (.invokestatic 144, 3) := by decide +kernel
theorem dX11_might_43 : decode cX11_might 43 = .ok (.ifCond .eq 12, 3) := by decide +kernel
theorem dX11_might_46 : decode cX11_might 46 = .ok (.aload_n 0, 1) := by decide +kernel
theorem dX11_might_47 : decode cX11_might 47 = .ok (.iload 4, 2) := by decide +kernel
theorem dX11_might_49 : decode cX11_might 49 = .ok (.invokevirtual 140, 3) := by decide +kernel
theorem dX11_might_52 : decode cX11_might 52 = .ok (.goto 4, 3) := by decide +kernel
theorem dX11_might_55 : decode cX11_might 55 = .ok (.iconst 0, 1) := by decide +kernel
theorem dX11_might_56 : decode cX11_might 56 = .ok (.iadd, 1) := by decide +kernel
theorem dX11_might_57 : decode cX11_might 57 = .ok (.istore_n 3, 1) := by decide +kernel
theorem dX11_might_58 : decode cX11_might 58 = .ok (.iinc 4 1, 3) := by decide +kernel
theorem dX11_might_61 : decode cX11_might 61 = .ok (.goto (-50), 3) := by decide +kernel
theorem dX11_might_64 : decode cX11_might 64 = .ok (.iload_n 3, 1) := by decide +kernel
theorem dX11_might_65 : decode cX11_might 65 = .ok (.ireturn, 1) := by decide +kernel
set_option maxRecDepth 20000 in
theorem ggX11_raft_X11_isRaft : GoodIn wsX11_raft wsX11_isRaft := goodIn_r _ [6, 7, 8, 9, 5, 10, 53, 54, 55, 56, 57, 58, 59, 60, 61, 62, 63, 64, 65, 66, 67, 68, 69, 70, 71, 72, 73, 74, 75, 76, 77, 78, 79, 80, 81, 82] (by decide +kernel) (by decide +kernel)
set_option maxRecDepth 20000 in
theorem gX11_raft_X11_isRaft : GoodIn wsX11_raft (wsV RX11 157 RX11 yX11_isRaft wsX11_isRaft) := goodIn_app (goodIn_of _ (by decide +kernel)) ggX11_raft_X11_isRaft
set_option maxRecDepth 20000 in
theorem ggX11_raft_X11_has : GoodIn wsX11_raft wsX11_has := goodIn_r _ [13] (by decide +kernel) (by decide +kernel)
set_option maxRecDepth 20000 in
theorem gX11_raft_X11_has : GoodIn wsX11_raft (va_wsS RX11 144 yX11_has wsX11_has) := goodIn_app (goodIn_of _ (by decide +kernel)) ggX11_raft_X11_has
set_option maxRecDepth 20000 in
theorem ggX11_raft_X11_estate : GoodIn wsX11_raft wsX11_estate := goodIn_r _ [17, 18, 19, 20, 21, 5, 22, 1, 23, 24, 25, 26, 27, 11, 12, 13, 28, 29, 30, 31, 32, 53, 54, 55, 56, 57, 58, 59, 60, 61, 62, 63, 64, 65, 66, 67, 68, 69, 70, 71, 72, 73, 74, 75, 76, 77, 78, 79, 80, 81, 82] (by decide +kernel) (by decide +kernel)
set_option maxRecDepth 20000 in
theorem gX11_raft_X11_estate : GoodIn wsX11_raft (wsV RX11 160 RX11 yX11_estate wsX11_estate) := goodIn_app (goodIn_of _ (by decide +kernel)) ggX11_raft_X11_estate
set_option maxRecDepth 20000 in
theorem ggX11_raft_X11_townOf : GoodIn wsX11_raft wsX11_townOf := goodIn_r _ [36, 7, 37, 11, 12, 5, 13, 53, 54, 55, 56, 57, 58, 59, 60, 61, 62, 63, 64, 65, 66, 67, 68, 69, 70, 71, 72, 73, 74, 75, 76, 77, 78, 79, 80, 81, 82] (by decide +kernel) (by decide +kernel)
set_option maxRecDepth 20000 in
theorem gX11_raft_X11_townOf : GoodIn wsX11_raft (wsV RX11 154 RX11 yX11_townOf wsX11_townOf) := goodIn_app (goodIn_of _ (by decide +kernel)) ggX11_raft_X11_townOf
set_option maxRecDepth 20000 in
theorem ggX11_raft_X11_might : GoodIn wsX11_raft wsX11_might := goodIn_r _ [41, 18, 27, 33, 34, 35, 5, 36, 7, 37, 11, 12, 13, 19, 20, 21, 22, 1, 42, 43, 44, 45, 46, 47, 48, 49, 50, 51, 52, 53, 54, 55, 56, 57, 58, 59, 60, 61, 62, 63, 64, 65, 66, 67, 68, 69, 70, 71, 72, 73, 74, 75, 76, 77, 78, 79, 80, 81, 82] (by decide +kernel) (by decide +kernel)
set_option maxRecDepth 20000 in
theorem gX11_raft_X11_might : GoodIn wsX11_raft (wsV RX11 163 RX11 yX11_might wsX11_might) := goodIn_app (goodIn_of _ (by decide +kernel)) ggX11_raft_X11_might
theorem dX11_raft_0 : decode cX11_raft 0 = .ok (.aload_n 0, 1) := by decide +kernel
theorem dX11_raft_1 : decode cX11_raft 1 = .ok (.iload_n 1, 1) := by decide +kernel
theorem dX11_raft_2 : decode cX11_raft 2 = .ok (.invokevirtual 157, 3) := by decide +kernel
theorem dX11_raft_5 : decode cX11_raft 5 = .ok (.ifCond .ne 5, 3) := by decide +kernel
theorem dX11_raft_8 : decode cX11_raft 8 = .ok (.iconst (-1), 1) := by decide +kernel
theorem dX11_raft_9 : decode cX11_raft 9 = .ok (.ireturn, 1) := by decide +kernel
theorem dX11_raft_10 : decode cX11_raft 10 = .ok (.iload_n 2, 1) := by decide +kernel
theorem dX11_raft_11 : decode cX11_raft 11 = .ok (.tableswitch 95 0 5 #[37, 47, 67, 77, 83, 89], 37) := by decide +kernel
theorem dX11_raft_48 : decode cX11_raft 48 = .ok (.aload_n 0, 1) := by decide +kernel
theorem dX11_raft_49 : decode cX11_raft 49 = .ok (.getfield 47, 3) := by decide +kernel
theorem dX11_raft_52 : decode cX11_raft 52 = .ok (.bipush 33, 2) := by decide +kernel
theorem dX11_raft_54 : decode cX11_raft 54 = .ok (.iload_n 1, 1) := by decide +kernel
theorem dX11_raft_55 : decode cX11_raft 55 = .ok (.iadd, 1) := by decide +kernel
theorem dX11_raft_56 : decode cX11_raft 56 = .ok (.iaload, 1) := by decide +kernel
theorem dX11_raft_57 : decode cX11_raft 57 = .ok (.ireturn, 1) := by decide +kernel
theorem dX11_raft_58 : decode cX11_raft 58 = .ok (.aload_n 0, 1) := by decide +kernel
theorem dX11_raft_59 : decode cX11_raft 59 = .ok (.getfield 47, 3) := by decide +kernel
theorem dX11_raft_62 : decode cX11_raft 62 = .ok (.bipush 32, 2) := by decide +kernel
theorem dX11_raft_64 : decode cX11_raft 64 = .ok (.iaload, 1) := by decide +kernel
theorem dX11_raft_65 : decode cX11_raft 65 = .ok (.iload_n 1, 1) := by decide +kernel
theorem dX11_raft_66 : decode cX11_raft 66 = .ok (.invokestatic 144, 3) := by decide +kernel
theorem dX11_raft_69 : decode cX11_raft 69 = .ok (.ifCond .eq 7, 3) := by decide +kernel
theorem dX11_raft_72 : decode cX11_raft 72 = .ok (.iconst 1, 1) := by decide +kernel
theorem dX11_raft_73 : decode cX11_raft 73 = .ok (.goto 4, 3) := by decide +kernel
theorem dX11_raft_76 : decode cX11_raft 76 = .ok (.iconst 0, 1) := by decide +kernel
theorem dX11_raft_77 : decode cX11_raft 77 = .ok (.ireturn, 1) := by decide +kernel
theorem dX11_raft_78 : decode cX11_raft 78 = .ok (.aload_n 0, 1) := by decide +kernel
theorem dX11_raft_79 : decode cX11_raft 79 = .ok (.getfield 47, 3) := by decide +kernel
theorem dX11_raft_82 : decode cX11_raft 82 = .ok (.bipush 39, 2) := by decide +kernel
theorem dX11_raft_84 : decode cX11_raft 84 = .ok (.iload_n 1, 1) := by decide +kernel
theorem dX11_raft_85 : decode cX11_raft 85 = .ok (.iadd, 1) := by decide +kernel
theorem dX11_raft_86 : decode cX11_raft 86 = .ok (.iaload, 1) := by decide +kernel
theorem dX11_raft_87 : decode cX11_raft 87 = .ok (.ireturn, 1) := by decide +kernel
theorem dX11_raft_88 : decode cX11_raft 88 = .ok (.aload_n 0, 1) := by decide +kernel
theorem dX11_raft_89 : decode cX11_raft 89 = .ok (.iload_n 1, 1) := by decide +kernel
theorem dX11_raft_90 : decode cX11_raft 90 = .ok (.invokevirtual 160, 3) := by decide +kernel
theorem dX11_raft_93 : decode cX11_raft 93 = .ok (.ireturn, 1) := by decide +kernel
theorem dX11_raft_94 : decode cX11_raft 94 = .ok (.aload_n 0, 1) := by decide +kernel
theorem dX11_raft_95 : decode cX11_raft 95 = .ok (.iload_n 1, 1) := by decide +kernel
theorem dX11_raft_96 : decode cX11_raft 96 = .ok (.invokevirtual 154, 3) := by decide +kernel
theorem dX11_raft_99 : decode cX11_raft 99 = .ok (.ireturn, 1) := by decide +kernel
theorem dX11_raft_100 : decode cX11_raft 100 = .ok (.aload_n 0, 1) := by decide +kernel
theorem dX11_raft_101 : decode cX11_raft 101 = .ok (.iload_n 1, 1) := by decide +kernel
theorem dX11_raft_102 : decode cX11_raft 102 = .ok (.invokevirtual 163, 3) := by decide +kernel
theorem dX11_raft_105 : decode cX11_raft 105 = .ok (.ireturn, 1) := by decide +kernel
theorem dX11_raft_106 : decode cX11_raft 106 = .ok (.iconst (-1), 1) := by decide +kernel
theorem dX11_raft_107 : decode cX11_raft 107 = .ok (.ireturn, 1) := by decide +kernel
set_option maxRecDepth 20000 in
theorem ggX11_anchor_X11_isAnchor : GoodIn wsX11_anchor wsX11_isAnchor := goodIn_r _ [9, 10, 11, 12, 8, 13, 39, 40, 41, 42, 43, 44, 45, 46, 47, 48, 49, 50, 51, 52, 53, 54, 55, 56, 57, 58, 59, 60, 61, 62, 63, 64, 65, 66, 67, 68] (by decide +kernel) (by decide +kernel)
set_option maxRecDepth 20000 in
theorem gX11_anchor_X11_isAnchor : GoodIn wsX11_anchor (wsV RX11 166 RX11 yX11_isAnchor wsX11_isAnchor) := goodIn_app (goodIn_of _ (by decide +kernel)) ggX11_anchor_X11_isAnchor
set_option maxRecDepth 20000 in
theorem ggX11_anchor_X11_isLying : GoodIn wsX11_anchor wsX11_isLying := goodIn_r _ [17, 2, 39, 40, 41, 42, 43, 44, 45, 46, 47, 48, 49, 50, 51, 52, 53, 54, 55, 56, 57, 58, 59, 60, 61, 62, 63, 64, 65, 66, 67, 68] (by decide +kernel) (by decide +kernel)
set_option maxRecDepth 20000 in
theorem gX11_anchor_X11_isLying : GoodIn wsX11_anchor (wsV RX11 137 RX11 yX11_isLying wsX11_isLying) := goodIn_app (goodIn_of _ (by decide +kernel)) ggX11_anchor_X11_isLying
set_option maxRecDepth 20000 in
theorem ggX11_anchor_X11_hold : GoodIn wsX11_anchor wsX11_hold := goodIn_r _ [21, 10, 2, 14, 15, 16, 8, 17, 22, 23, 24, 25, 26, 27, 28, 29, 3, 30, 31, 39, 40, 41, 42, 43, 44, 45, 46, 47, 48, 49, 50, 51, 52, 53, 54, 55, 56, 57, 58, 59, 60, 61, 62, 63, 64, 65, 66, 67, 68] (by decide +kernel) (by decide +kernel)
set_option maxRecDepth 20000 in
theorem gX11_anchor_X11_hold : GoodIn wsX11_anchor (wsV RX11 169 RX11 yX11_hold wsX11_hold) := goodIn_app (goodIn_of _ (by decide +kernel)) ggX11_anchor_X11_hold
set_option maxRecDepth 20000 in
theorem ggX11_anchor_X11_whose : GoodIn wsX11_anchor wsX11_whose := goodIn_r _ [35, 1, 2, 36, 37, 8, 38, 39, 40, 41, 42, 43, 44, 45, 46, 47, 48, 49, 50, 51, 52, 53, 54, 55, 56, 57, 58, 59, 60, 61, 62, 63, 64, 65, 66, 67, 68] (by decide +kernel) (by decide +kernel)
set_option maxRecDepth 20000 in
theorem gX11_anchor_X11_whose : GoodIn wsX11_anchor (wsV RX11 148 RX11 yX11_whose wsX11_whose) := goodIn_app (goodIn_of _ (by decide +kernel)) ggX11_anchor_X11_whose
theorem dX11_anchor_0 : decode cX11_anchor 0 = .ok (.aload_n 0, 1) := by decide +kernel
theorem dX11_anchor_1 : decode cX11_anchor 1 = .ok (.iload_n 1, 1) := by decide +kernel
theorem dX11_anchor_2 : decode cX11_anchor 2 = .ok (.invokevirtual 166, 3) := by decide +kernel
theorem dX11_anchor_5 : decode cX11_anchor 5 = .ok (.ifCond .ne 5, 3) := by decide +kernel
theorem dX11_anchor_8 : decode cX11_anchor 8 = .ok (.iconst (-1), 1) := by decide +kernel
theorem dX11_anchor_9 : decode cX11_anchor 9 = .ok (.ireturn, 1) := by decide +kernel
theorem dX11_anchor_10 : decode cX11_anchor 10 = .ok (.iload_n 2, 1) := by decide +kernel
theorem dX11_anchor_11 : decode cX11_anchor 11 = .ok (.tableswitch 134 0 8 #[49, 56, 65, 72, 82, 89, 99, 109, 128], 49) := by decide +kernel
theorem dX11_anchor_60 : decode cX11_anchor 60 = .ok (.aload_n 0, 1) := by decide +kernel
theorem dX11_anchor_61 : decode cX11_anchor 61 = .ok (.getfield 32, 3) := by decide +kernel
theorem dX11_anchor_64 : decode cX11_anchor 64 = .ok (.iload_n 1, 1) := by decide +kernel
theorem dX11_anchor_65 : decode cX11_anchor 65 = .ok (.iaload, 1) := by decide +kernel
theorem dX11_anchor_66 : decode cX11_anchor 66 = .ok (.ireturn, 1) := by decide +kernel
theorem dX11_anchor_67 : decode cX11_anchor 67 = .ok (.aload_n 0, 1) := by decide +kernel
theorem dX11_anchor_68 : decode cX11_anchor 68 = .ok (.getfield 47, 3) := by decide +kernel
theorem dX11_anchor_71 : decode cX11_anchor 71 = .ok (.iconst 0, 1) := by decide +kernel
theorem dX11_anchor_72 : decode cX11_anchor 72 = .ok (.iload_n 1, 1) := by decide +kernel
theorem dX11_anchor_73 : decode cX11_anchor 73 = .ok (.iadd, 1) := by decide +kernel
theorem dX11_anchor_74 : decode cX11_anchor 74 = .ok (.iaload, 1) := by decide +kernel
theorem dX11_anchor_75 : decode cX11_anchor 75 = .ok (.ireturn, 1) := by decide +kernel
theorem dX11_anchor_76 : decode cX11_anchor 76 = .ok (.aload_n 0, 1) := by decide +kernel
theorem dX11_anchor_77 : decode cX11_anchor 77 = .ok (.getfield 38, 3) := by decide +kernel
theorem dX11_anchor_80 : decode cX11_anchor 80 = .ok (.iload_n 1, 1) := by decide +kernel
theorem dX11_anchor_81 : decode cX11_anchor 81 = .ok (.iaload, 1) := by decide +kernel
theorem dX11_anchor_82 : decode cX11_anchor 82 = .ok (.ireturn, 1) := by decide +kernel
theorem dX11_anchor_83 : decode cX11_anchor 83 = .ok (.aload_n 0, 1) := by decide +kernel
theorem dX11_anchor_84 : decode cX11_anchor 84 = .ok (.getfield 47, 3) := by decide +kernel
theorem dX11_anchor_87 : decode cX11_anchor 87 = .ok (.bipush 8, 2) := by decide +kernel
theorem dX11_anchor_89 : decode cX11_anchor 89 = .ok (.iload_n 1, 1) := by decide +kernel
theorem dX11_anchor_90 : decode cX11_anchor 90 = .ok (.iadd, 1) := by decide +kernel
theorem dX11_anchor_91 : decode cX11_anchor 91 = .ok (.iaload, 1) := by decide +kernel
theorem dX11_anchor_92 : decode cX11_anchor 92 = .ok (.ireturn, 1) := by decide +kernel
theorem dX11_anchor_93 : decode cX11_anchor 93 = .ok (.aload_n 0, 1) := by decide +kernel
theorem dX11_anchor_94 : decode cX11_anchor 94 = .ok (.getfield 44, 3) := by decide +kernel
theorem dX11_anchor_97 : decode cX11_anchor 97 = .ok (.iload_n 1, 1) := by decide +kernel
theorem dX11_anchor_98 : decode cX11_anchor 98 = .ok (.iaload, 1) := by decide +kernel
theorem dX11_anchor_99 : decode cX11_anchor 99 = .ok (.ireturn, 1) := by decide +kernel
theorem dX11_anchor_100 : decode cX11_anchor 100 = .ok (.aload_n 0, 1) := by decide +kernel
theorem dX11_anchor_101 : decode cX11_anchor 101 = .ok (.getfield 47, 3) := by decide +kernel
theorem dX11_anchor_104 : decode cX11_anchor 104 = .ok (.bipush 16, 2) := by decide +kernel
theorem dX11_anchor_106 : decode cX11_anchor 106 = .ok (.iload_n 1, 1) := by decide +kernel
theorem dX11_anchor_107 : decode cX11_anchor 107 = .ok (.iadd, 1) := by decide +kernel
theorem dX11_anchor_108 : decode cX11_anchor 108 = .ok (.iaload, 1) := by decide +kernel
theorem dX11_anchor_109 : decode cX11_anchor 109 = .ok (.ireturn, 1) := by decide +kernel
theorem dX11_anchor_110 : decode cX11_anchor 110 = .ok (.aload_n 0, 1) := by decide +kernel
theorem dX11_anchor_111 : decode cX11_anchor 111 = .ok (.getfield 47, 3) := by decide +kernel
theorem dX11_anchor_114 : decode cX11_anchor 114 = .ok (.bipush 24, 2) := by decide +kernel
theorem dX11_anchor_116 : decode cX11_anchor 116 = .ok (.iload_n 1, 1) := by decide +kernel
theorem dX11_anchor_117 : decode cX11_anchor 117 = .ok (.iadd, 1) := by decide +kernel
theorem dX11_anchor_118 : decode cX11_anchor 118 = .ok (.iaload, 1) := by decide +kernel
theorem dX11_anchor_119 : decode cX11_anchor 119 = .ok (.ireturn, 1) := by decide +kernel
theorem dX11_anchor_120 : decode cX11_anchor 120 = .ok (.aload_n 0, 1) := by decide +kernel
theorem dX11_anchor_121 : decode cX11_anchor 121 = .ok (.iload_n 1, 1) := by decide +kernel
theorem dX11_anchor_122 : decode cX11_anchor 122 = .ok (.invokevirtual 137, 3) := by decide +kernel
theorem dX11_anchor_125 : decode cX11_anchor 125 = .ok (.ifCond .eq 11, 3) := by decide +kernel
theorem dX11_anchor_128 : decode cX11_anchor 128 = .ok (.aload_n 0, 1) := by decide +kernel
theorem dX11_anchor_129 : decode cX11_anchor 129 = .ok (.iload_n 1, 1) := by decide +kernel
theorem dX11_anchor_130 : decode cX11_anchor 130 = .ok (.invokevirtual 169, 3) := by decide +kernel
theorem dX11_anchor_133 : decode cX11_anchor 133 = .ok (.goto 5, 3) := by decide +kernel
theorem dX11_anchor_136 : decode cX11_anchor 136 = .ok (.bipush (-9), 2) := by decide +kernel
theorem dX11_anchor_138 : decode cX11_anchor 138 = .ok (.ireturn, 1) := by decide +kernel
theorem dX11_anchor_139 : decode cX11_anchor 139 = .ok (.aload_n 0, 1) := by decide +kernel
theorem dX11_anchor_140 : decode cX11_anchor 140 = .ok (.iload_n 1, 1) := by decide +kernel
theorem dX11_anchor_141 : decode cX11_anchor 141 = .ok (.invokevirtual 148, 3) := by decide +kernel
theorem dX11_anchor_144 : decode cX11_anchor 144 = .ok (.ireturn, 1) := by decide +kernel
theorem dX11_anchor_145 : decode cX11_anchor 145 = .ok (.iconst (-1), 1) := by decide +kernel
theorem dX11_anchor_146 : decode cX11_anchor 146 = .ok (.ireturn, 1) := by decide +kernel
theorem dX11_know_0 : decode cX11_know 0 = .ok (.aload_n 0, 1) := by decide +kernel
theorem dX11_know_1 : decode cX11_know 1 = .ok (.getfield 50, 3) := by decide +kernel
theorem dX11_know_4 : decode cX11_know 4 = .ok (.iconst 0, 1) := by decide +kernel
theorem dX11_know_5 : decode cX11_know 5 = .ok (.iaload, 1) := by decide +kernel
theorem dX11_know_6 : decode cX11_know 6 = .ok (.bipush 10, 2) := by decide +kernel
theorem dX11_know_8 : decode cX11_know 8 = .ok (.if_icmp .ne 43, 3) := by decide +kernel
theorem dX11_know_11 : decode cX11_know 11 = .ok (.iconst 0, 1) := by decide +kernel
theorem dX11_know_12 : decode cX11_know 12 = .ok (.istore_n 1, 1) := by decide +kernel
theorem dX11_know_13 : decode cX11_know 13 = .ok (.iload_n 1, 1) := by decide +kernel
theorem dX11_know_14 : decode cX11_know 14 = .ok (.sipush 405, 3) := by decide +kernel
theorem dX11_know_17 : decode cX11_know 17 = .ok (.if_icmp .ge 24, 3) := by decide +kernel
theorem dX11_know_20 : decode cX11_know 20 = .ok (.aload_n 0, 1) := by decide +kernel
theorem dX11_know_21 : decode cX11_know 21 = .ok (.getfield 53, 3) := by decide +kernel
theorem dX11_know_24 : decode cX11_know 24 = .ok (.iload_n 1, 1) := by decide +kernel
theorem dX11_know_25 : decode cX11_know 25 = .ok (.aload_n 0, 1) := by decide +kernel
theorem dX11_know_26 : decode cX11_know 26 = .ok (.getfield 53, 3) := by decide +kernel
theorem dX11_know_29 : decode cX11_know 29 = .ok (.bipush 45, 2) := by decide +kernel
theorem dX11_know_31 : decode cX11_know 31 = .ok (.iload_n 1, 1) := by decide +kernel
theorem dX11_know_32 : decode cX11_know 32 = .ok (.iadd, 1) := by decide +kernel
theorem dX11_know_33 : decode cX11_know 33 = .ok (.iaload, 1) := by decide +kernel
theorem dX11_know_34 : decode cX11_know 34 = .ok (.iastore, 1) := by decide +kernel
theorem dX11_know_35 : decode cX11_know 35 = .ok (.iinc 1 1, 3) := by decide +kernel
theorem dX11_know_38 : decode cX11_know 38 = .ok (.goto (-25), 3) := by decide +kernel
theorem dX11_know_41 : decode cX11_know 41 = .ok (.aload_n 0, 1) := by decide +kernel
theorem dX11_know_42 : decode cX11_know 42 = .ok (.getfield 50, 3) := by decide +kernel
theorem dX11_know_45 : decode cX11_know 45 = .ok (.iconst 0, 1) := by decide +kernel
theorem dX11_know_46 : decode cX11_know 46 = .ok (.dup2, 1) := by decide +kernel
theorem dX11_know_47 : decode cX11_know 47 = .ok (.iaload, 1) := by decide +kernel
theorem dX11_know_48 : decode cX11_know 48 = .ok (.iconst 1, 1) := by decide +kernel
theorem dX11_know_49 : decode cX11_know 49 = .ok (.isub, 1) := by decide +kernel
theorem dX11_know_50 : decode cX11_know 50 = .ok (.iastore, 1) := by decide +kernel
theorem dX11_know_51 : decode cX11_know 51 = .ok (.iconst 0, 1) := by decide +kernel
theorem dX11_know_52 : decode cX11_know 52 = .ok (.istore_n 1, 1) := by decide +kernel
theorem dX11_know_53 : decode cX11_know 53 = .ok (.iload_n 1, 1) := by decide +kernel
theorem dX11_know_54 : decode cX11_know 54 = .ok (.bipush 45, 2) := by decide +kernel
theorem dX11_know_56 : decode cX11_know 56 = .ok (.if_icmp .ge 31, 3) := by decide +kernel
theorem dX11_know_59 : decode cX11_know 59 = .ok (.aload_n 0, 1) := by decide +kernel
theorem dX11_know_60 : decode cX11_know 60 = .ok (.getfield 53, 3) := by decide +kernel
theorem dX11_know_63 : decode cX11_know 63 = .ok (.bipush 45, 2) := by decide +kernel
theorem dX11_know_65 : decode cX11_know 65 = .ok (.aload_n 0, 1) := by decide +kernel
theorem dX11_know_66 : decode cX11_know 66 = .ok (.getfield 50, 3) := by decide +kernel
theorem dX11_know_69 : decode cX11_know 69 = .ok (.iconst 0, 1) := by decide +kernel
theorem dX11_know_70 : decode cX11_know 70 = .ok (.iaload, 1) := by decide +kernel
theorem dX11_know_71 : decode cX11_know 71 = .ok (.imul, 1) := by decide +kernel
theorem dX11_know_72 : decode cX11_know 72 = .ok (.iload_n 1, 1) := by decide +kernel
theorem dX11_know_73 : decode cX11_know 73 = .ok (.iadd, 1) := by decide +kernel
theorem dX11_know_74 : decode cX11_know 74 = .ok (.aload_n 0, 1) := by decide +kernel
theorem dX11_know_75 : decode cX11_know 75 = .ok (.getfield 47, 3) := by decide +kernel
theorem dX11_know_78 : decode cX11_know 78 = .ok (.iload_n 1, 1) := by decide +kernel
theorem dX11_know_79 : decode cX11_know 79 = .ok (.iaload, 1) := by decide +kernel
theorem dX11_know_80 : decode cX11_know 80 = .ok (.iastore, 1) := by decide +kernel
theorem dX11_know_81 : decode cX11_know 81 = .ok (.iinc 1 1, 3) := by decide +kernel
theorem dX11_know_84 : decode cX11_know 84 = .ok (.goto (-31), 3) := by decide +kernel
theorem dX11_know_87 : decode cX11_know 87 = .ok (.aload_n 0, 1) := by decide +kernel
theorem dX11_know_88 : decode cX11_know 88 = .ok (.getfield 50, 3) := by decide +kernel
theorem dX11_know_91 : decode cX11_know 91 = .ok (.iconst 0, 1) := by decide +kernel
theorem dX11_know_92 : decode cX11_know 92 = .ok (.dup2, 1) := by decide +kernel
theorem dX11_know_93 : decode cX11_know 93 = .ok (.iaload, 1) := by decide +kernel
theorem dX11_know_94 : decode cX11_know 94 = .ok (.iconst 1, 1) := by decide +kernel
theorem dX11_know_95 : decode cX11_know 95 = .ok (.iadd, 1) := by decide +kernel
theorem dX11_know_96 : decode cX11_know 96 = .ok (.iastore, 1) := by decide +kernel
theorem dX11_know_97 : decode cX11_know 97 = .ok (.return_, 1) := by decide +kernel
