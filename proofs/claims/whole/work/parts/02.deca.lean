theorem dX0_init_0 : decode cX0_init 0 = .ok (.aload_n 0, 1) := by decide +kernel
theorem dX0_init_1 : decode cX0_init 1 = .ok (.invokespecial 3, 3) := by decide +kernel
theorem dX0_init_4 : decode cX0_init 4 = .ok (.aload_n 0, 1) := by decide +kernel
theorem dX0_init_5 : decode cX0_init 5 = .ok (.bipush 8, 2) := by decide +kernel
theorem dX0_init_7 : decode cX0_init 7 = .ok (.newarray .int, 2) := by decide +kernel
theorem dX0_init_9 : decode cX0_init 9 = .ok (.putfield 9, 3) := by decide +kernel
theorem dX0_init_12 : decode cX0_init 12 = .ok (.aload_n 0, 1) := by decide +kernel
theorem dX0_init_13 : decode cX0_init 13 = .ok (.bipush 64, 2) := by decide +kernel
theorem dX0_init_15 : decode cX0_init 15 = .ok (.newarray .int, 2) := by decide +kernel
theorem dX0_init_17 : decode cX0_init 17 = .ok (.putfield 15, 3) := by decide +kernel
theorem dX0_init_20 : decode cX0_init 20 = .ok (.aload_n 0, 1) := by decide +kernel
theorem dX0_init_21 : decode cX0_init 21 = .ok (.aload_n 1, 1) := by decide +kernel
theorem dX0_init_22 : decode cX0_init 22 = .ok (.putfield 18, 3) := by decide +kernel
theorem dX0_init_25 : decode cX0_init 25 = .ok (.aload_n 0, 1) := by decide +kernel
theorem dX0_init_26 : decode cX0_init 26 = .ok (.aload_n 2, 1) := by decide +kernel
theorem dX0_init_27 : decode cX0_init 27 = .ok (.putfield 22, 3) := by decide +kernel
theorem dX0_init_30 : decode cX0_init 30 = .ok (.return_, 1) := by decide +kernel
set_option maxRecDepth 20000 in
theorem ggX0_berthOf_X10_fill : GoodIn wsX0_berthOf wsX10_fill := goodIn_r _ [5] (by decide +kernel) (by decide +kernel)
set_option maxRecDepth 20000 in
theorem gX0_berthOf_X10_fill_n26 : GoodIn wsX0_berthOf (wsX10_fill) := ggX0_berthOf_X10_fill
set_option maxRecDepth 20000 in
theorem ggX0_berthOf_X0_cellsOfOthers : GoodIn wsX0_berthOf wsX0_cellsOfOthers := goodIn_r _ [10, 11, 12, 13, 4, 14, 15, 16, 17, 18, 19, 20, 21, 22, 23, 24, 25, 26, 27, 28, 57, 58, 59, 60, 61, 62, 63, 64, 65, 66, 67, 68, 69, 70, 71] (by decide +kernel) (by decide +kernel)
set_option maxRecDepth 20000 in
theorem gX0_berthOf_X0_cellsOfOthers : GoodIn wsX0_berthOf (wsV RX0 30 RX0 yX0_cellsOfOthers wsX0_cellsOfOthers) := goodIn_app (goodIn_of _ (by decide +kernel)) ggX0_berthOf_X0_cellsOfOthers
set_option maxRecDepth 20000 in
theorem ggX0_berthOf_X0_lays : GoodIn wsX0_berthOf wsX0_lays := goodIn_r _ [31, 11, 2, 32, 4, 33, 26, 27, 28, 29, 30, 9, 34, 35, 36, 37, 1, 24, 25, 38, 39, 40, 41, 12, 20, 16, 21, 22, 23, 42, 43, 44, 45, 46, 47, 48, 49, 50, 51, 52, 53, 54, 55, 56, 57, 58, 59, 60, 61, 62, 63, 64, 65, 66, 67, 68, 69, 70, 71] (by decide +kernel) (by decide +kernel)
set_option maxRecDepth 20000 in
theorem gX0_berthOf_X0_lays : GoodIn wsX0_berthOf (va_wsS RX0 34 yX0_lays wsX0_lays) := goodIn_app (goodIn_of _ (by decide +kernel)) ggX0_berthOf_X0_lays
set_option maxRecDepth 20000 in
theorem ggX0_berthOf_X10_at : GoodIn wsX0_berthOf wsX10_at := goodIn_r _ [25] (by decide +kernel) (by decide +kernel)
set_option maxRecDepth 20000 in
theorem gX0_berthOf_X10_at_n38 : GoodIn wsX0_berthOf (wsX10_at) := ggX0_berthOf_X10_at
theorem dX0_berthOf_0 : decode cX0_berthOf 0 = .ok (.aload_n 0, 1) := by decide +kernel
theorem dX0_berthOf_1 : decode cX0_berthOf 1 = .ok (.getfield 15, 3) := by decide +kernel
theorem dX0_berthOf_4 : decode cX0_berthOf 4 = .ok (.iconst 0, 1) := by decide +kernel
theorem dX0_berthOf_5 : decode cX0_berthOf 5 = .ok (.invokestatic 26, 3) := by decide +kernel
theorem dX0_berthOf_8 : decode cX0_berthOf 8 = .ok (.aload_n 0, 1) := by decide +kernel
theorem dX0_berthOf_9 : decode cX0_berthOf 9 = .ok (.iload_n 1, 1) := by decide +kernel
theorem dX0_berthOf_10 : decode cX0_berthOf 10 = .ok (.iload_n 2, 1) := by decide +kernel
theorem dX0_berthOf_11 : decode cX0_berthOf 11 = .ok (.iconst 0, 1) := by decide +kernel
theorem dX0_berthOf_12 : decode cX0_berthOf 12 = .ok (.aload_n 0, 1) := by decide +kernel
theorem dX0_berthOf_13 : decode cX0_berthOf 13 = .ok (.iload_n 1, 1) := by decide +kernel
theorem dX0_berthOf_14 : decode cX0_berthOf 14 = .ok (.invokevirtual 30, 3) := by decide +kernel
theorem dX0_berthOf_17 : decode cX0_berthOf 17 = .ok (.invokestatic 34, 3) := by decide +kernel
theorem dX0_berthOf_20 : decode cX0_berthOf 20 = .ok (.ifCond .eq 14, 3) := by decide +kernel
theorem dX0_berthOf_23 : decode cX0_berthOf 23 = .ok (.aload_n 0, 1) := by decide +kernel
theorem dX0_berthOf_24 : decode cX0_berthOf 24 = .ok (.getfield 9, 3) := by decide +kernel
theorem dX0_berthOf_27 : decode cX0_berthOf 27 = .ok (.iload_n 3, 1) := by decide +kernel
theorem dX0_berthOf_28 : decode cX0_berthOf 28 = .ok (.invokestatic 38, 3) := by decide +kernel
theorem dX0_berthOf_31 : decode cX0_berthOf 31 = .ok (.goto 5, 3) := by decide +kernel
theorem dX0_berthOf_34 : decode cX0_berthOf 34 = .ok (.bipush (-9), 2) := by decide +kernel
theorem dX0_berthOf_36 : decode cX0_berthOf 36 = .ok (.ireturn, 1) := by decide +kernel
set_option maxRecDepth 20000 in
theorem ggX0_cellsOfOthers_X10_lyingIn : GoodIn wsX0_cellsOfOthers wsX10_lyingIn := goodIn_r _ [5, 6, 7, 8, 9, 10, 11, 12, 13, 14, 15, 4, 16, 17, 18, 19, 24, 25, 26, 27, 28, 29, 30, 31, 32, 33, 34] (by decide +kernel) (by decide +kernel)
set_option maxRecDepth 20000 in
theorem gX0_cellsOfOthers_X10_lyingIn_n42 : GoodIn wsX0_cellsOfOthers (wsX10_lyingIn) := ggX0_cellsOfOthers_X10_lyingIn
set_option maxRecDepth 20000 in
theorem ggX0_cellsOfOthers_X10_bit : GoodIn wsX0_cellsOfOthers wsX10_bit := goodIn_r _ [19] (by decide +kernel) (by decide +kernel)
set_option maxRecDepth 20000 in
theorem gX0_cellsOfOthers_X10_bit_n46 : GoodIn wsX0_cellsOfOthers (wsX10_bit) := ggX0_cellsOfOthers_X10_bit
theorem dX0_cellsOfOthers_0 : decode cX0_cellsOfOthers 0 = .ok (.iconst 0, 1) := by decide +kernel
theorem dX0_cellsOfOthers_1 : decode cX0_cellsOfOthers 1 = .ok (.istore_n 2, 1) := by decide +kernel
theorem dX0_cellsOfOthers_2 : decode cX0_cellsOfOthers 2 = .ok (.iconst 0, 1) := by decide +kernel
theorem dX0_cellsOfOthers_3 : decode cX0_cellsOfOthers 3 = .ok (.istore_n 3, 1) := by decide +kernel
theorem dX0_cellsOfOthers_4 : decode cX0_cellsOfOthers 4 = .ok (.iload_n 3, 1) := by decide +kernel
theorem dX0_cellsOfOthers_5 : decode cX0_cellsOfOthers 5 = .ok (.bipush 10, 2) := by decide +kernel
theorem dX0_cellsOfOthers_7 : decode cX0_cellsOfOthers 7 = .ok (.if_icmp .ge 35, 3) := by decide +kernel
theorem dX0_cellsOfOthers_10 : decode cX0_cellsOfOthers 10 = .ok (.aload_n 0, 1) := by decide +kernel
theorem dX0_cellsOfOthers_11 : decode cX0_cellsOfOthers 11 = .ok (.getfield 18, 3) := by decide +kernel
theorem dX0_cellsOfOthers_14 : decode cX0_cellsOfOthers 14 = .ok (.aload_n 0, 1) := by decide +kernel
theorem dX0_cellsOfOthers_15 : decode cX0_cellsOfOthers 15 = .ok (.getfield 22, 3) := by decide +kernel
theorem dX0_cellsOfOthers_18 : decode cX0_cellsOfOthers 18 = .ok (.iload_n 3, 1) := by decide +kernel
theorem dX0_cellsOfOthers_19 : decode cX0_cellsOfOthers 19 = .ok (.invokestatic 42, 3) := by decide +kernel
theorem dX0_cellsOfOthers_22 : decode cX0_cellsOfOthers 22 = .ok (.iload_n 1, 1) := by decide +kernel
theorem dX0_cellsOfOthers_23 : decode cX0_cellsOfOthers 23 = .ok (.iconst (-1), 1) := by decide +kernel
theorem dX0_cellsOfOthers_24 : decode cX0_cellsOfOthers 24 = .ok (.ixor, 1) := by decide +kernel
theorem dX0_cellsOfOthers_25 : decode cX0_cellsOfOthers 25 = .ok (.iand, 1) := by decide +kernel
theorem dX0_cellsOfOthers_26 : decode cX0_cellsOfOthers 26 = .ok (.ifCond .eq 10, 3) := by decide +kernel
theorem dX0_cellsOfOthers_29 : decode cX0_cellsOfOthers 29 = .ok (.iload_n 2, 1) := by decide +kernel
theorem dX0_cellsOfOthers_30 : decode cX0_cellsOfOthers 30 = .ok (.iload_n 3, 1) := by decide +kernel
theorem dX0_cellsOfOthers_31 : decode cX0_cellsOfOthers 31 = .ok (.invokestatic 46, 3) := by decide +kernel
theorem dX0_cellsOfOthers_34 : decode cX0_cellsOfOthers 34 = .ok (.ior, 1) := by decide +kernel
theorem dX0_cellsOfOthers_35 : decode cX0_cellsOfOthers 35 = .ok (.istore_n 2, 1) := by decide +kernel
theorem dX0_cellsOfOthers_36 : decode cX0_cellsOfOthers 36 = .ok (.iinc 3 1, 3) := by decide +kernel
theorem dX0_cellsOfOthers_39 : decode cX0_cellsOfOthers 39 = .ok (.goto (-35), 3) := by decide +kernel
theorem dX0_cellsOfOthers_42 : decode cX0_cellsOfOthers 42 = .ok (.iload_n 2, 1) := by decide +kernel
theorem dX0_cellsOfOthers_43 : decode cX0_cellsOfOthers 43 = .ok (.ireturn, 1) := by decide +kernel
set_option maxRecDepth 20000 in
theorem ggX0_lays_X10_has : GoodIn wsX0_lays wsX10_has := goodIn_r _ [5, 6, 7, 4, 8] (by decide +kernel) (by decide +kernel)
set_option maxRecDepth 20000 in
theorem gX0_lays_X10_has_n55 : GoodIn wsX0_lays (wsX10_has) := ggX0_lays_X10_has
set_option maxRecDepth 20000 in
theorem ggX0_lays_X0_lays : GoodIn wsX0_lays wsX0_lays := goodIn_r _ [0, 1, 2, 3, 4, 5, 6, 7, 8, 9, 10, 11, 12, 13, 14, 15, 16, 17, 18, 19, 20, 21, 22, 23, 24, 25, 26, 27, 28, 29, 30, 31, 32, 33, 34, 35, 36, 37, 38, 39, 40, 41, 42, 43, 44, 45, 46, 47, 48, 49, 50, 51, 52, 53, 54, 55, 56, 57, 58] (by decide +kernel) (by decide +kernel)
set_option maxRecDepth 20000 in
theorem gX0_lays_X0_lays : GoodIn wsX0_lays (va_wsS RX0 34 yX0_lays wsX0_lays) := goodIn_app (goodIn_of _ (by decide +kernel)) ggX0_lays_X0_lays
set_option maxRecDepth 20000 in
theorem ggX0_lays_X0_isHopeless : GoodIn wsX0_lays wsX0_isHopeless := goodIn_r _ [15, 16, 17, 4, 18, 3, 5, 6, 7, 8, 44, 45, 46, 47] (by decide +kernel) (by decide +kernel)
set_option maxRecDepth 20000 in
theorem gX0_lays_X0_isHopeless : GoodIn wsX0_lays (wsV RX0 59 RX0 yX0_isHopeless wsX0_isHopeless) := goodIn_app (goodIn_of _ (by decide +kernel)) ggX0_lays_X0_isHopeless
set_option maxRecDepth 20000 in
theorem ggX0_lays_X0_wouldHold : GoodIn wsX0_lays wsX0_wouldHold := goodIn_r _ [22, 1, 23, 24, 25, 26, 27, 28, 17, 4, 18, 29, 30, 31, 32, 33, 34, 35, 36, 37, 44, 45, 46, 47, 58, 48, 49, 50, 51, 52, 53, 54, 55, 56, 57] (by decide +kernel) (by decide +kernel)
set_option maxRecDepth 20000 in
theorem gX0_lays_X0_wouldHold : GoodIn wsX0_lays (wsV RX0 63 RX0 yX0_wouldHold wsX0_wouldHold) := goodIn_app (goodIn_of _ (by decide +kernel)) ggX0_lays_X0_wouldHold
set_option maxRecDepth 20000 in
theorem ggX0_lays_X10_put : GoodIn wsX0_lays wsX10_put := goodIn_r _ [39] (by decide +kernel) (by decide +kernel)
set_option maxRecDepth 20000 in
theorem gX0_lays_X10_put_n67 : GoodIn wsX0_lays (wsX10_put) := ggX0_lays_X10_put
set_option maxRecDepth 20000 in
theorem ggX0_lays_X10_bit : GoodIn wsX0_lays wsX10_bit := goodIn_r _ [8] (by decide +kernel) (by decide +kernel)
set_option maxRecDepth 20000 in
theorem gX0_lays_X10_bit_n46 : GoodIn wsX0_lays (wsX10_bit) := ggX0_lays_X10_bit
set_option maxRecDepth 20000 in
theorem ggX0_lays_X0_callsHopeless : GoodIn wsX0_lays wsX0_callsHopeless := goodIn_r _ [43, 16, 17, 4, 18, 7, 8, 38, 39, 44, 45, 46, 47] (by decide +kernel) (by decide +kernel)
set_option maxRecDepth 20000 in
theorem gX0_lays_X0_callsHopeless : GoodIn wsX0_lays (wsV RX0 71 RX0 yX0_callsHopeless wsX0_callsHopeless) := goodIn_app (goodIn_of _ (by decide +kernel)) ggX0_lays_X0_callsHopeless
theorem dX0_lays_0 : decode cX0_lays 0 = .ok (.iload_n 3, 1) := by decide +kernel
theorem dX0_lays_1 : decode cX0_lays 1 = .ok (.aload_n 0, 1) := by decide +kernel
theorem dX0_lays_2 : decode cX0_lays 2 = .ok (.getfield 18, 3) := by decide +kernel
theorem dX0_lays_5 : decode cX0_lays 5 = .ok (.getfield 49, 3) := by decide +kernel
theorem dX0_lays_8 : decode cX0_lays 8 = .ok (.if_icmp .lt 5, 3) := by decide +kernel
theorem dX0_lays_11 : decode cX0_lays 11 = .ok (.iconst 1, 1) := by decide +kernel
theorem dX0_lays_12 : decode cX0_lays 12 = .ok (.ireturn, 1) := by decide +kernel
theorem dX0_lays_13 : decode cX0_lays 13 = .ok (.iload_n 1, 1) := by decide +kernel
theorem dX0_lays_14 : decode cX0_lays 14 = .ok (.iload_n 3, 1) := by decide +kernel
theorem dX0_lays_15 : decode cX0_lays 15 = .ok (.invokestatic 55, 3) := by decide +kernel
theorem dX0_lays_18 : decode cX0_lays 18 = .ok (.ifCond .ne 15, 3) := by decide +kernel
theorem dX0_lays_21 : decode cX0_lays 21 = .ok (.aload_n 0, 1) := by decide +kernel
theorem dX0_lays_22 : decode cX0_lays 22 = .ok (.iload_n 1, 1) := by decide +kernel
theorem dX0_lays_23 : decode cX0_lays 23 = .ok (.iload_n 2, 1) := by decide +kernel
theorem dX0_lays_24 : decode cX0_lays 24 = .ok (.iload_n 3, 1) := by decide +kernel
theorem dX0_lays_25 : decode cX0_lays 25 = .ok (.iconst 1, 1) := by decide +kernel
theorem dX0_lays_26 : decode cX0_lays 26 = .ok (.iadd, 1) := by decide +kernel
theorem dX0_lays_27 : decode cX0_lays 27 = .ok (.iload 4, 2) := by decide +kernel
theorem dX0_lays_29 : decode cX0_lays 29 = .ok (.invokestatic 34, 3) := by decide +kernel
theorem dX0_lays_32 : decode cX0_lays 32 = .ok (.ireturn, 1) := by decide +kernel
theorem dX0_lays_33 : decode cX0_lays 33 = .ok (.aload_n 0, 1) := by decide +kernel
theorem dX0_lays_34 : decode cX0_lays 34 = .ok (.iload 4, 2) := by decide +kernel
theorem dX0_lays_36 : decode cX0_lays 36 = .ok (.invokevirtual 59, 3) := by decide +kernel
theorem dX0_lays_39 : decode cX0_lays 39 = .ok (.ifCond .eq 5, 3) := by decide +kernel
theorem dX0_lays_42 : decode cX0_lays 42 = .ok (.iconst 0, 1) := by decide +kernel
theorem dX0_lays_43 : decode cX0_lays 43 = .ok (.ireturn, 1) := by decide +kernel
theorem dX0_lays_44 : decode cX0_lays 44 = .ok (.iconst 0, 1) := by decide +kernel
theorem dX0_lays_45 : decode cX0_lays 45 = .ok (.istore 5, 2) := by decide +kernel
theorem dX0_lays_47 : decode cX0_lays 47 = .ok (.iload 5, 2) := by decide +kernel
theorem dX0_lays_49 : decode cX0_lays 49 = .ok (.bipush 10, 2) := by decide +kernel
theorem dX0_lays_51 : decode cX0_lays 51 = .ok (.if_icmp .ge 62, 3) := by decide +kernel
theorem dX0_lays_54 : decode cX0_lays 54 = .ok (.iload 4, 2) := by decide +kernel
theorem dX0_lays_56 : decode cX0_lays 56 = .ok (.iload 5, 2) := by decide +kernel
theorem dX0_lays_58 : decode cX0_lays 58 = .ok (.invokestatic 55, 3) := by decide +kernel
theorem dX0_lays_61 : decode cX0_lays 61 = .ok (.ifCond .ne 46, 3) := by decide +kernel
theorem dX0_lays_64 : decode cX0_lays 64 = .ok (.aload_n 0, 1) := by decide +kernel
theorem dX0_lays_65 : decode cX0_lays 65 = .ok (.iload 5, 2) := by decide +kernel
theorem dX0_lays_67 : decode cX0_lays 67 = .ok (.iload_n 3, 1) := by decide +kernel
theorem dX0_lays_68 : decode cX0_lays 68 = .ok (.iload_n 2, 1) := by decide +kernel
theorem dX0_lays_69 : decode cX0_lays 69 = .ok (.invokevirtual 63, 3) := by decide +kernel
theorem dX0_lays_72 : decode cX0_lays 72 = .ok (.ifCond .eq 35, 3) := by decide +kernel
theorem dX0_lays_75 : decode cX0_lays 75 = .ok (.aload_n 0, 1) := by decide +kernel
theorem dX0_lays_76 : decode cX0_lays 76 = .ok (.getfield 9, 3) := by decide +kernel
theorem dX0_lays_79 : decode cX0_lays 79 = .ok (.iload_n 3, 1) := by decide +kernel
theorem dX0_lays_80 : decode cX0_lays 80 = .ok (.iload 5, 2) := by decide +kernel
theorem dX0_lays_82 : decode cX0_lays 82 = .ok (.invokestatic 67, 3) := by decide +kernel
theorem dX0_lays_85 : decode cX0_lays 85 = .ok (.aload_n 0, 1) := by decide +kernel
theorem dX0_lays_86 : decode cX0_lays 86 = .ok (.iload_n 1, 1) := by decide +kernel
theorem dX0_lays_87 : decode cX0_lays 87 = .ok (.iload_n 2, 1) := by decide +kernel
theorem dX0_lays_88 : decode cX0_lays 88 = .ok (.iload_n 3, 1) := by decide +kernel
theorem dX0_lays_89 : decode cX0_lays 89 = .ok (.iconst 1, 1) := by decide +kernel
theorem dX0_lays_90 : decode cX0_lays 90 = .ok (.iadd, 1) := by decide +kernel
theorem dX0_lays_91 : decode cX0_lays 91 = .ok (.iload 4, 2) := by decide +kernel
theorem dX0_lays_93 : decode cX0_lays 93 = .ok (.iload 5, 2) := by decide +kernel
theorem dX0_lays_95 : decode cX0_lays 95 = .ok (.invokestatic 46, 3) := by decide +kernel
theorem dX0_lays_98 : decode cX0_lays 98 = .ok (.ior, 1) := by decide +kernel
theorem dX0_lays_99 : decode cX0_lays 99 = .ok (.invokestatic 34, 3) := by decide +kernel
theorem dX0_lays_102 : decode cX0_lays 102 = .ok (.ifCond .eq 5, 3) := by decide +kernel
theorem dX0_lays_105 : decode cX0_lays 105 = .ok (.iconst 1, 1) := by decide +kernel
theorem dX0_lays_106 : decode cX0_lays 106 = .ok (.ireturn, 1) := by decide +kernel
theorem dX0_lays_107 : decode cX0_lays 107 = .ok (.iinc 5 1, 3) := by decide +kernel
theorem dX0_lays_110 : decode cX0_lays 110 = .ok (.goto (-63), 3) := by decide +kernel
theorem dX0_lays_113 : decode cX0_lays 113 = .ok (.aload_n 0, 1) := by decide +kernel
theorem dX0_lays_114 : decode cX0_lays 114 = .ok (.iload 4, 2) := by decide +kernel
theorem dX0_lays_116 : decode cX0_lays 116 = .ok (.invokevirtual 71, 3) := by decide +kernel
theorem dX0_lays_119 : decode cX0_lays 119 = .ok (.iconst 0, 1) := by decide +kernel
theorem dX0_lays_120 : decode cX0_lays 120 = .ok (.ireturn, 1) := by decide +kernel
set_option maxRecDepth 20000 in
theorem ggX0_wouldHold_X5_get : GoodIn wsX0_wouldHold wsX5_get := goodIn_r _ [6, 7, 8, 9, 10, 24] (by decide +kernel) (by decide +kernel)
set_option maxRecDepth 20000 in
theorem gX0_wouldHold_X5_get_n77 : GoodIn wsX0_wouldHold (wsX5_get) := ggX0_wouldHold_X5_get
set_option maxRecDepth 20000 in
theorem ggX0_wouldHold_X9_strengthIn : GoodIn wsX0_wouldHold wsX9_strengthIn := goodIn_r _ [14, 15, 16, 17, 8, 9, 10, 18, 19, 25, 26, 27, 28, 29, 30, 31, 32, 33, 34] (by decide +kernel) (by decide +kernel)
set_option maxRecDepth 20000 in
theorem gX0_wouldHold_X9_strengthIn_n81 : GoodIn wsX0_wouldHold (wsX9_strengthIn) := ggX0_wouldHold_X9_strengthIn
theorem dX0_wouldHold_0 : decode cX0_wouldHold 0 = .ok (.aload_n 0, 1) := by decide +kernel
theorem dX0_wouldHold_1 : decode cX0_wouldHold 1 = .ok (.getfield 18, 3) := by decide +kernel
theorem dX0_wouldHold_4 : decode cX0_wouldHold 4 = .ok (.iload_n 1, 1) := by decide +kernel
theorem dX0_wouldHold_5 : decode cX0_wouldHold 5 = .ok (.iload_n 2, 1) := by decide +kernel
theorem dX0_wouldHold_6 : decode cX0_wouldHold 6 = .ok (.aload_n 0, 1) := by decide +kernel
theorem dX0_wouldHold_7 : decode cX0_wouldHold 7 = .ok (.getfield 22, 3) := by decide +kernel
theorem dX0_wouldHold_10 : decode cX0_wouldHold 10 = .ok (.bipush 8, 2) := by decide +kernel
theorem dX0_wouldHold_12 : decode cX0_wouldHold 12 = .ok (.iload_n 2, 1) := by decide +kernel
theorem dX0_wouldHold_13 : decode cX0_wouldHold 13 = .ok (.invokevirtual 77, 3) := by decide +kernel
theorem dX0_wouldHold_16 : decode cX0_wouldHold 16 = .ok (.invokevirtual 81, 3) := by decide +kernel
theorem dX0_wouldHold_19 : decode cX0_wouldHold 19 = .ok (.iload_n 3, 1) := by decide +kernel
theorem dX0_wouldHold_20 : decode cX0_wouldHold 20 = .ok (.if_icmp .lt 7, 3) := by decide +kernel
theorem dX0_wouldHold_23 : decode cX0_wouldHold 23 = .ok (.iconst 1, 1) := by decide +kernel
theorem dX0_wouldHold_24 : decode cX0_wouldHold 24 = .ok (.goto 4, 3) := by decide +kernel
theorem dX0_wouldHold_27 : decode cX0_wouldHold 27 = .ok (.iconst 0, 1) := by decide +kernel
theorem dX0_wouldHold_28 : decode cX0_wouldHold 28 = .ok (.ireturn, 1) := by decide +kernel
set_option maxRecDepth 20000 in
theorem ggX0_isHopeless_X10_at : GoodIn wsX0_isHopeless wsX10_at := goodIn_r _ [4] (by decide +kernel) (by decide +kernel)
set_option maxRecDepth 20000 in
theorem gX0_isHopeless_X10_at_n38 : GoodIn wsX0_isHopeless (wsX10_at) := ggX0_isHopeless_X10_at
set_option maxRecDepth 20000 in
theorem ggX0_isHopeless_X10_has : GoodIn wsX0_isHopeless wsX10_has := goodIn_r _ [6, 7, 8, 3, 9] (by decide +kernel) (by decide +kernel)
set_option maxRecDepth 20000 in
theorem gX0_isHopeless_X10_has_n55 : GoodIn wsX0_isHopeless (wsX10_has) := ggX0_isHopeless_X10_has
theorem dX0_isHopeless_0 : decode cX0_isHopeless 0 = .ok (.aload_n 0, 1) := by decide +kernel
theorem dX0_isHopeless_1 : decode cX0_isHopeless 1 = .ok (.getfield 15, 3) := by decide +kernel
theorem dX0_isHopeless_4 : decode cX0_isHopeless 4 = .ok (.iload_n 1, 1) := by decide +kernel
theorem dX0_isHopeless_5 : decode cX0_isHopeless 5 = .ok (.bipush 16, 2) := by decide +kernel
theorem dX0_isHopeless_7 : decode cX0_isHopeless 7 = .ok (.idiv, 1) := by decide +kernel
theorem dX0_isHopeless_8 : decode cX0_isHopeless 8 = .ok (.invokestatic 38, 3) := by decide +kernel
theorem dX0_isHopeless_11 : decode cX0_isHopeless 11 = .ok (.iload_n 1, 1) := by decide +kernel
theorem dX0_isHopeless_12 : decode cX0_isHopeless 12 = .ok (.bipush 16, 2) := by decide +kernel
theorem dX0_isHopeless_14 : decode cX0_isHopeless 14 = .ok (.irem, 1) := by decide +kernel
theorem dX0_isHopeless_15 : decode cX0_isHopeless 15 = .ok (.invokestatic 55, 3) := by decide +kernel
theorem dX0_isHopeless_18 : decode cX0_isHopeless 18 = .ok (.ireturn, 1) := by decide +kernel
set_option maxRecDepth 20000 in
theorem ggX0_callsHopeless_X10_at : GoodIn wsX0_callsHopeless wsX10_at := goodIn_r _ [4] (by decide +kernel) (by decide +kernel)
set_option maxRecDepth 20000 in
theorem gX0_callsHopeless_X10_at_n38 : GoodIn wsX0_callsHopeless (wsX10_at) := ggX0_callsHopeless_X10_at
set_option maxRecDepth 20000 in
theorem ggX0_callsHopeless_X10_bit : GoodIn wsX0_callsHopeless wsX10_bit := goodIn_r _ [6] (by decide +kernel) (by decide +kernel)
set_option maxRecDepth 20000 in
theorem gX0_callsHopeless_X10_bit_n46 : GoodIn wsX0_callsHopeless (wsX10_bit) := ggX0_callsHopeless_X10_bit
set_option maxRecDepth 20000 in
theorem ggX0_callsHopeless_X10_put : GoodIn wsX0_callsHopeless wsX10_put := goodIn_r _ [8] (by decide +kernel) (by decide +kernel)
set_option maxRecDepth 20000 in
theorem gX0_callsHopeless_X10_put_n67 : GoodIn wsX0_callsHopeless (wsX10_put) := ggX0_callsHopeless_X10_put
theorem dX0_callsHopeless_0 : decode cX0_callsHopeless 0 = .ok (.iload_n 1, 1) := by decide +kernel
theorem dX0_callsHopeless_1 : decode cX0_callsHopeless 1 = .ok (.bipush 16, 2) := by decide +kernel
theorem dX0_callsHopeless_3 : decode cX0_callsHopeless 3 = .ok (.idiv, 1) := by decide +kernel
theorem dX0_callsHopeless_4 : decode cX0_callsHopeless 4 = .ok (.istore_n 2, 1) := by decide +kernel
theorem dX0_callsHopeless_5 : decode cX0_callsHopeless 5 = .ok (.aload_n 0, 1) := by decide +kernel
theorem dX0_callsHopeless_6 : decode cX0_callsHopeless 6 = .ok (.getfield 15, 3) := by decide +kernel
theorem dX0_callsHopeless_9 : decode cX0_callsHopeless 9 = .ok (.iload_n 2, 1) := by decide +kernel
theorem dX0_callsHopeless_10 : decode cX0_callsHopeless 10 = .ok (.aload_n 0, 1) := by decide +kernel
theorem dX0_callsHopeless_11 : decode cX0_callsHopeless 11 = .ok (.getfield 15, 3) := by decide +kernel
theorem dX0_callsHopeless_14 : decode cX0_callsHopeless 14 = .ok (.iload_n 2, 1) := by decide +kernel
theorem dX0_callsHopeless_15 : decode cX0_callsHopeless 15 = .ok (.invokestatic 38, 3) := by decide +kernel
theorem dX0_callsHopeless_18 : decode cX0_callsHopeless 18 = .ok (.iload_n 1, 1) := by decide +kernel
theorem dX0_callsHopeless_19 : decode cX0_callsHopeless 19 = .ok (.bipush 16, 2) := by decide +kernel
theorem dX0_callsHopeless_21 : decode cX0_callsHopeless 21 = .ok (.irem, 1) := by decide +kernel
theorem dX0_callsHopeless_22 : decode cX0_callsHopeless 22 = .ok (.invokestatic 46, 3) := by decide +kernel
theorem dX0_callsHopeless_25 : decode cX0_callsHopeless 25 = .ok (.ior, 1) := by decide +kernel
theorem dX0_callsHopeless_26 : decode cX0_callsHopeless 26 = .ok (.invokestatic 67, 3) := by decide +kernel
theorem dX0_callsHopeless_29 : decode cX0_callsHopeless 29 = .ok (.return_, 1) := by decide +kernel
theorem dX1_init_0 : decode cX1_init 0 = .ok (.aload_n 0, 1) := by decide +kernel
theorem dX1_init_1 : decode cX1_init 1 = .ok (.invokespecial 3, 3) := by decide +kernel
theorem dX1_init_4 : decode cX1_init 4 = .ok (.aload_n 0, 1) := by decide +kernel
theorem dX1_init_5 : decode cX1_init 5 = .ok (.bipush 6, 2) := by decide +kernel
theorem dX1_init_7 : decode cX1_init 7 = .ok (.newarray .int, 2) := by decide +kernel
theorem dX1_init_9 : decode cX1_init 9 = .ok (.putfield 11, 3) := by decide +kernel
theorem dX1_init_12 : decode cX1_init 12 = .ok (.aload_n 0, 1) := by decide +kernel
theorem dX1_init_13 : decode cX1_init 13 = .ok (.bipush 6, 2) := by decide +kernel
theorem dX1_init_15 : decode cX1_init 15 = .ok (.newarray .int, 2) := by decide +kernel
theorem dX1_init_17 : decode cX1_init 17 = .ok (.putfield 15, 3) := by decide +kernel
theorem dX1_init_20 : decode cX1_init 20 = .ok (.aload_n 0, 1) := by decide +kernel
theorem dX1_init_21 : decode cX1_init 21 = .ok (.bipush 8, 2) := by decide +kernel
theorem dX1_init_23 : decode cX1_init 23 = .ok (.newarray .int, 2) := by decide +kernel
theorem dX1_init_25 : decode cX1_init 25 = .ok (.putfield 18, 3) := by decide +kernel
theorem dX1_init_28 : decode cX1_init 28 = .ok (.aload_n 0, 1) := by decide +kernel
theorem dX1_init_29 : decode cX1_init 29 = .ok (.aload_n 1, 1) := by decide +kernel
theorem dX1_init_30 : decode cX1_init 30 = .ok (.putfield 21, 3) := by decide +kernel
theorem dX1_init_33 : decode cX1_init 33 = .ok (.aload_n 0, 1) := by decide +kernel
theorem dX1_init_34 : decode cX1_init 34 = .ok (.aload_n 2, 1) := by decide +kernel
theorem dX1_init_35 : decode cX1_init 35 = .ok (.putfield 25, 3) := by decide +kernel
theorem dX1_init_38 : decode cX1_init 38 = .ok (.return_, 1) := by decide +kernel
set_option maxRecDepth 20000 in
theorem ggX1_takes_X10_put : GoodIn wsX1_takes wsX10_put := goodIn_r _ [6] (by decide +kernel) (by decide +kernel)
set_option maxRecDepth 20000 in
theorem gX1_takes_X10_put_n33 : GoodIn wsX1_takes (wsX10_put) := ggX1_takes_X10_put
theorem dX1_takes_0 : decode cX1_takes 0 = .ok (.aload_n 0, 1) := by decide +kernel
theorem dX1_takes_1 : decode cX1_takes 1 = .ok (.getfield 29, 3) := by decide +kernel
theorem dX1_takes_4 : decode cX1_takes 4 = .ok (.bipush 6, 2) := by decide +kernel
theorem dX1_takes_6 : decode cX1_takes 6 = .ok (.if_icmp .lt 5, 3) := by decide +kernel
theorem dX1_takes_9 : decode cX1_takes 9 = .ok (.iconst 0, 1) := by decide +kernel
theorem dX1_takes_10 : decode cX1_takes 10 = .ok (.ireturn, 1) := by decide +kernel
theorem dX1_takes_11 : decode cX1_takes 11 = .ok (.aload_n 0, 1) := by decide +kernel
theorem dX1_takes_12 : decode cX1_takes 12 = .ok (.getfield 11, 3) := by decide +kernel
theorem dX1_takes_15 : decode cX1_takes 15 = .ok (.aload_n 0, 1) := by decide +kernel
theorem dX1_takes_16 : decode cX1_takes 16 = .ok (.getfield 29, 3) := by decide +kernel
theorem dX1_takes_19 : decode cX1_takes 19 = .ok (.iload_n 1, 1) := by decide +kernel
theorem dX1_takes_20 : decode cX1_takes 20 = .ok (.invokestatic 33, 3) := by decide +kernel
theorem dX1_takes_23 : decode cX1_takes 23 = .ok (.aload_n 0, 1) := by decide +kernel
theorem dX1_takes_24 : decode cX1_takes 24 = .ok (.getfield 15, 3) := by decide +kernel
theorem dX1_takes_27 : decode cX1_takes 27 = .ok (.aload_n 0, 1) := by decide +kernel
theorem dX1_takes_28 : decode cX1_takes 28 = .ok (.getfield 29, 3) := by decide +kernel
theorem dX1_takes_31 : decode cX1_takes 31 = .ok (.iload_n 2, 1) := by decide +kernel
theorem dX1_takes_32 : decode cX1_takes 32 = .ok (.invokestatic 33, 3) := by decide +kernel
theorem dX1_takes_35 : decode cX1_takes 35 = .ok (.aload_n 0, 1) := by decide +kernel
theorem dX1_takes_36 : decode cX1_takes 36 = .ok (.dup, 1) := by decide +kernel
theorem dX1_takes_37 : decode cX1_takes 37 = .ok (.getfield 29, 3) := by decide +kernel
theorem dX1_takes_40 : decode cX1_takes 40 = .ok (.iconst 1, 1) := by decide +kernel
theorem dX1_takes_41 : decode cX1_takes 41 = .ok (.iadd, 1) := by decide +kernel
theorem dX1_takes_42 : decode cX1_takes 42 = .ok (.putfield 29, 3) := by decide +kernel
theorem dX1_takes_45 : decode cX1_takes 45 = .ok (.iconst 1, 1) := by decide +kernel
theorem dX1_takes_46 : decode cX1_takes 46 = .ok (.ireturn, 1) := by decide +kernel
set_option maxRecDepth 20000 in
theorem ggX1_fitting_X1_weighStrengths : GoodIn wsX1_fitting wsX1_weighStrengths := goodIn_r _ [10, 1, 11, 2, 12, 13, 14, 15, 16, 17, 18, 19, 20, 21, 22, 23, 24, 25, 26, 27, 28, 29, 30, 31, 32, 33, 34, 44, 45, 46, 47, 48, 49, 50, 51, 52, 53, 54, 55, 56, 57, 58, 59, 60] (by decide +kernel) (by decide +kernel)
set_option maxRecDepth 20000 in
theorem gX1_fitting_X1_weighStrengths : GoodIn wsX1_fitting (wsV RX1 37 RX1 yX1_weighStrengths wsX1_weighStrengths) := goodIn_app (goodIn_of _ (by decide +kernel)) ggX1_fitting_X1_weighStrengths
set_option maxRecDepth 20000 in
theorem ggX1_fitting_X10_thoseThatAre : GoodIn wsX1_fitting wsX10_thoseThatAre := goodIn_r _ [36, 16, 17, 18, 19, 20, 21, 22, 23, 37, 38, 39, 50, 51, 52, 53, 54, 55, 56, 57, 58, 59, 60] (by decide +kernel) (by decide +kernel)
set_option maxRecDepth 20000 in
theorem gX1_fitting_X10_thoseThatAre_n40 : GoodIn wsX1_fitting (wsX10_thoseThatAre) := ggX1_fitting_X10_thoseThatAre
set_option maxRecDepth 20000 in
theorem ggX1_fitting_X10_at : GoodIn wsX1_fitting wsX10_at := goodIn_r _ [23] (by decide +kernel) (by decide +kernel)
set_option maxRecDepth 20000 in
theorem gX1_fitting_X10_at_n44 : GoodIn wsX1_fitting (wsX10_at) := ggX1_fitting_X10_at
set_option maxRecDepth 20000 in
theorem ggX1_fitting_X1_thatHold : GoodIn wsX1_fitting wsX1_thatHold := goodIn_r _ [43, 1, 11, 21, 22, 23, 38, 39, 44, 45, 46, 47, 48, 49, 50, 51, 52, 53, 54, 55, 56, 57, 58, 59] (by decide +kernel) (by decide +kernel)
set_option maxRecDepth 20000 in
theorem gX1_fitting_X1_thatHold : GoodIn wsX1_fitting (wsV RX1 48 RX1 yX1_thatHold wsX1_thatHold) := goodIn_app (goodIn_of _ (by decide +kernel)) ggX1_fitting_X1_thatHold
theorem dX1_fitting_0 : decode cX1_fitting 0 = .ok (.aload_n 0, 1) := by decide +kernel
theorem dX1_fitting_1 : decode cX1_fitting 1 = .ok (.invokevirtual 37, 3) := by decide +kernel
theorem dX1_fitting_4 : decode cX1_fitting 4 = .ok (.aload_n 0, 1) := by decide +kernel
theorem dX1_fitting_5 : decode cX1_fitting 5 = .ok (.getfield 21, 3) := by decide +kernel
theorem dX1_fitting_8 : decode cX1_fitting 8 = .ok (.aload_n 0, 1) := by decide +kernel
theorem dX1_fitting_9 : decode cX1_fitting 9 = .ok (.getfield 25, 3) := by decide +kernel
theorem dX1_fitting_12 : decode cX1_fitting 12 = .ok (.iconst 0, 1) := by decide +kernel
theorem dX1_fitting_13 : decode cX1_fitting 13 = .ok (.invokestatic 40, 3) := by decide +kernel
theorem dX1_fitting_16 : decode cX1_fitting 16 = .ok (.istore_n 1, 1) := by decide +kernel
theorem dX1_fitting_17 : decode cX1_fitting 17 = .ok (.iconst 0, 1) := by decide +kernel
theorem dX1_fitting_18 : decode cX1_fitting 18 = .ok (.istore_n 2, 1) := by decide +kernel
theorem dX1_fitting_19 : decode cX1_fitting 19 = .ok (.iload_n 2, 1) := by decide +kernel
theorem dX1_fitting_20 : decode cX1_fitting 20 = .ok (.aload_n 0, 1) := by decide +kernel
theorem dX1_fitting_21 : decode cX1_fitting 21 = .ok (.getfield 29, 3) := by decide +kernel
theorem dX1_fitting_24 : decode cX1_fitting 24 = .ok (.if_icmp .ge 44, 3) := by decide +kernel
theorem dX1_fitting_27 : decode cX1_fitting 27 = .ok (.aload_n 0, 1) := by decide +kernel
theorem dX1_fitting_28 : decode cX1_fitting 28 = .ok (.aload_n 0, 1) := by decide +kernel
theorem dX1_fitting_29 : decode cX1_fitting 29 = .ok (.getfield 11, 3) := by decide +kernel
theorem dX1_fitting_32 : decode cX1_fitting 32 = .ok (.iload_n 2, 1) := by decide +kernel
theorem dX1_fitting_33 : decode cX1_fitting 33 = .ok (.invokestatic 44, 3) := by decide +kernel
theorem dX1_fitting_36 : decode cX1_fitting 36 = .ok (.invokevirtual 48, 3) := by decide +kernel
theorem dX1_fitting_39 : decode cX1_fitting 39 = .ok (.istore_n 3, 1) := by decide +kernel
theorem dX1_fitting_40 : decode cX1_fitting 40 = .ok (.iload_n 1, 1) := by decide +kernel
theorem dX1_fitting_41 : decode cX1_fitting 41 = .ok (.aload_n 0, 1) := by decide +kernel
theorem dX1_fitting_42 : decode cX1_fitting 42 = .ok (.getfield 15, 3) := by decide +kernel
theorem dX1_fitting_45 : decode cX1_fitting 45 = .ok (.iload_n 2, 1) := by decide +kernel
theorem dX1_fitting_46 : decode cX1_fitting 46 = .ok (.invokestatic 44, 3) := by decide +kernel
theorem dX1_fitting_49 : decode cX1_fitting 49 = .ok (.iconst 1, 1) := by decide +kernel
theorem dX1_fitting_50 : decode cX1_fitting 50 = .ok (.if_icmp .ne 7, 3) := by decide +kernel
theorem dX1_fitting_53 : decode cX1_fitting 53 = .ok (.iload_n 3, 1) := by decide +kernel
theorem dX1_fitting_54 : decode cX1_fitting 54 = .ok (.goto 6, 3) := by decide +kernel
theorem dX1_fitting_57 : decode cX1_fitting 57 = .ok (.iload_n 3, 1) := by decide +kernel
theorem dX1_fitting_58 : decode cX1_fitting 58 = .ok (.iconst (-1), 1) := by decide +kernel
theorem dX1_fitting_59 : decode cX1_fitting 59 = .ok (.ixor, 1) := by decide +kernel
theorem dX1_fitting_60 : decode cX1_fitting 60 = .ok (.iand, 1) := by decide +kernel
theorem dX1_fitting_61 : decode cX1_fitting 61 = .ok (.istore_n 1, 1) := by decide +kernel
theorem dX1_fitting_62 : decode cX1_fitting 62 = .ok (.iinc 2 1, 3) := by decide +kernel
theorem dX1_fitting_65 : decode cX1_fitting 65 = .ok (.goto (-46), 3) := by decide +kernel
theorem dX1_fitting_68 : decode cX1_fitting 68 = .ok (.iload_n 1, 1) := by decide +kernel
theorem dX1_fitting_69 : decode cX1_fitting 69 = .ok (.ireturn, 1) := by decide +kernel
set_option maxRecDepth 20000 in
theorem ggX1_weighStrengths_X9_strengthOf : GoodIn wsX1_weighStrengths wsX9_strengthOf := goodIn_r _ [7, 8, 9, 10, 11, 12, 13, 14, 15, 16, 17, 18, 5, 19, 20, 21, 22, 23, 24, 43, 33, 34, 35, 36, 37, 38, 39, 40, 41, 42] (by decide +kernel) (by decide +kernel)
set_option maxRecDepth 20000 in
theorem gX1_weighStrengths_X9_strengthOf_n57 : GoodIn wsX1_weighStrengths (wsX9_strengthOf) := ggX1_weighStrengths_X9_strengthOf
set_option maxRecDepth 20000 in
theorem ggX1_weighStrengths_X10_put : GoodIn wsX1_weighStrengths wsX10_put := goodIn_r _ [26] (by decide +kernel) (by decide +kernel)
set_option maxRecDepth 20000 in
theorem gX1_weighStrengths_X10_put_n33 : GoodIn wsX1_weighStrengths (wsX10_put) := ggX1_weighStrengths_X10_put
theorem dX1_weighStrengths_0 : decode cX1_weighStrengths 0 = .ok (.iconst 0, 1) := by decide +kernel
theorem dX1_weighStrengths_1 : decode cX1_weighStrengths 1 = .ok (.istore_n 1, 1) := by decide +kernel
theorem dX1_weighStrengths_2 : decode cX1_weighStrengths 2 = .ok (.iload_n 1, 1) := by decide +kernel
theorem dX1_weighStrengths_3 : decode cX1_weighStrengths 3 = .ok (.aload_n 0, 1) := by decide +kernel
theorem dX1_weighStrengths_4 : decode cX1_weighStrengths 4 = .ok (.getfield 21, 3) := by decide +kernel
theorem dX1_weighStrengths_7 : decode cX1_weighStrengths 7 = .ok (.getfield 52, 3) := by decide +kernel
theorem dX1_weighStrengths_10 : decode cX1_weighStrengths 10 = .ok (.if_icmp .ge 29, 3) := by decide +kernel
theorem dX1_weighStrengths_13 : decode cX1_weighStrengths 13 = .ok (.aload_n 0, 1) := by decide +kernel
theorem dX1_weighStrengths_14 : decode cX1_weighStrengths 14 = .ok (.getfield 18, 3) := by decide +kernel
theorem dX1_weighStrengths_17 : decode cX1_weighStrengths 17 = .ok (.iload_n 1, 1) := by decide +kernel
theorem dX1_weighStrengths_18 : decode cX1_weighStrengths 18 = .ok (.aload_n 0, 1) := by decide +kernel
theorem dX1_weighStrengths_19 : decode cX1_weighStrengths 19 = .ok (.getfield 21, 3) := by decide +kernel
theorem dX1_weighStrengths_22 : decode cX1_weighStrengths 22 = .ok (.aload_n 0, 1) := by decide +kernel
theorem dX1_weighStrengths_23 : decode cX1_weighStrengths 23 = .ok (.getfield 25, 3) := by decide +kernel
theorem dX1_weighStrengths_26 : decode cX1_weighStrengths 26 = .ok (.iload_n 1, 1) := by decide +kernel
theorem dX1_weighStrengths_27 : decode cX1_weighStrengths 27 = .ok (.invokevirtual 57, 3) := by decide +kernel
theorem dX1_weighStrengths_30 : decode cX1_weighStrengths 30 = .ok (.invokestatic 33, 3) := by decide +kernel
theorem dX1_weighStrengths_33 : decode cX1_weighStrengths 33 = .ok (.iinc 1 1, 3) := by decide +kernel
theorem dX1_weighStrengths_36 : decode cX1_weighStrengths 36 = .ok (.goto (-34), 3) := by decide +kernel
theorem dX1_weighStrengths_39 : decode cX1_weighStrengths 39 = .ok (.return_, 1) := by decide +kernel
set_option maxRecDepth 20000 in
theorem ggX1_thatHold_X10_at : GoodIn wsX1_thatHold wsX10_at := goodIn_r _ [5] (by decide +kernel) (by decide +kernel)
set_option maxRecDepth 20000 in
theorem gX1_thatHold_X10_at_n44 : GoodIn wsX1_thatHold (wsX10_at) := ggX1_thatHold_X10_at
set_option maxRecDepth 20000 in
theorem ggX1_thatHold_X10_bit : GoodIn wsX1_thatHold wsX10_bit := goodIn_r _ [7] (by decide +kernel) (by decide +kernel)
set_option maxRecDepth 20000 in
theorem gX1_thatHold_X10_bit_n61 : GoodIn wsX1_thatHold (wsX10_bit) := ggX1_thatHold_X10_bit
theorem dX1_thatHold_0 : decode cX1_thatHold 0 = .ok (.iconst 0, 1) := by decide +kernel
theorem dX1_thatHold_1 : decode cX1_thatHold 1 = .ok (.istore_n 2, 1) := by decide +kernel
theorem dX1_thatHold_2 : decode cX1_thatHold 2 = .ok (.iconst 0, 1) := by decide +kernel
theorem dX1_thatHold_3 : decode cX1_thatHold 3 = .ok (.istore_n 3, 1) := by decide +kernel
theorem dX1_thatHold_4 : decode cX1_thatHold 4 = .ok (.iload_n 3, 1) := by decide +kernel
theorem dX1_thatHold_5 : decode cX1_thatHold 5 = .ok (.aload_n 0, 1) := by decide +kernel
theorem dX1_thatHold_6 : decode cX1_thatHold 6 = .ok (.getfield 21, 3) := by decide +kernel
theorem dX1_thatHold_9 : decode cX1_thatHold 9 = .ok (.getfield 52, 3) := by decide +kernel
theorem dX1_thatHold_12 : decode cX1_thatHold 12 = .ok (.if_icmp .ge 28, 3) := by decide +kernel
theorem dX1_thatHold_15 : decode cX1_thatHold 15 = .ok (.aload_n 0, 1) := by decide +kernel
theorem dX1_thatHold_16 : decode cX1_thatHold 16 = .ok (.getfield 18, 3) := by decide +kernel
theorem dX1_thatHold_19 : decode cX1_thatHold 19 = .ok (.iload_n 3, 1) := by decide +kernel
theorem dX1_thatHold_20 : decode cX1_thatHold 20 = .ok (.invokestatic 44, 3) := by decide +kernel
theorem dX1_thatHold_23 : decode cX1_thatHold 23 = .ok (.iload_n 1, 1) := by decide +kernel
theorem dX1_thatHold_24 : decode cX1_thatHold 24 = .ok (.if_icmp .lt 10, 3) := by decide +kernel
theorem dX1_thatHold_27 : decode cX1_thatHold 27 = .ok (.iload_n 2, 1) := by decide +kernel
theorem dX1_thatHold_28 : decode cX1_thatHold 28 = .ok (.iload_n 3, 1) := by decide +kernel
theorem dX1_thatHold_29 : decode cX1_thatHold 29 = .ok (.invokestatic 61, 3) := by decide +kernel
theorem dX1_thatHold_32 : decode cX1_thatHold 32 = .ok (.ior, 1) := by decide +kernel
theorem dX1_thatHold_33 : decode cX1_thatHold 33 = .ok (.istore_n 2, 1) := by decide +kernel
theorem dX1_thatHold_34 : decode cX1_thatHold 34 = .ok (.iinc 3 1, 3) := by decide +kernel
theorem dX1_thatHold_37 : decode cX1_thatHold 37 = .ok (.goto (-33), 3) := by decide +kernel
theorem dX1_thatHold_40 : decode cX1_thatHold 40 = .ok (.iload_n 2, 1) := by decide +kernel
theorem dX1_thatHold_41 : decode cX1_thatHold 41 = .ok (.ireturn, 1) := by decide +kernel
set_option maxRecDepth 20000 in
theorem ggX1_bestQuestion_X1_fitting : GoodIn wsX1_bestQuestion wsX1_fitting := goodIn_r _ [9, 10, 11, 12, 13, 14, 15, 16, 17, 8, 18, 19, 20, 21, 22, 23, 24, 25, 26, 27, 28, 29, 30, 31, 32, 33, 34, 35, 36, 37, 38, 39, 40, 41, 42, 43, 44, 45, 46, 47, 48, 49, 50, 51, 59, 60, 61, 62, 63, 64, 65, 66, 67, 68, 69, 70, 71, 72, 73, 74, 75] (by decide +kernel) (by decide +kernel)
set_option maxRecDepth 20000 in
theorem gX1_bestQuestion_X1_fitting : GoodIn wsX1_bestQuestion (wsV RX1 64 RX1 yX1_fitting wsX1_fitting) := goodIn_app (goodIn_of _ (by decide +kernel)) ggX1_bestQuestion_X1_fitting
set_option maxRecDepth 20000 in
theorem ggX1_bestQuestion_J6_bitCount_0f7a4 : GoodIn wsX1_bestQuestion wsJ6_bitCount_0f7a4 := goodIn_r _ [55, 56, 57, 58] (by decide +kernel) (by decide +kernel)
set_option maxRecDepth 20000 in
theorem gX1_bestQuestion_J6_bitCount_0f7a4 : GoodIn wsX1_bestQuestion (va_wsS RX1 68 yJ6_bitCount_0f7a4 wsJ6_bitCount_0f7a4) := goodIn_app (goodIn_of _ (by decide +kernel)) ggX1_bestQuestion_J6_bitCount_0f7a4
set_option maxRecDepth 20000 in
theorem ggX1_bestQuestion_X1_thatHold : GoodIn wsX1_bestQuestion wsX1_thatHold := goodIn_r _ [51, 10, 19, 29, 30, 31, 46, 47, 59, 60, 61, 62, 63, 64, 65, 66, 67, 68, 69, 70, 71, 72, 73, 74] (by decide +kernel) (by decide +kernel)
set_option maxRecDepth 20000 in
theorem gX1_bestQuestion_X1_thatHold : GoodIn wsX1_bestQuestion (wsV RX1 48 RX1 yX1_thatHold wsX1_thatHold) := goodIn_app (goodIn_of _ (by decide +kernel)) ggX1_bestQuestion_X1_thatHold
theorem dX1_bestQuestion_0 : decode cX1_bestQuestion 0 = .ok (.aload_n 0, 1) := by decide +kernel
theorem dX1_bestQuestion_1 : decode cX1_bestQuestion 1 = .ok (.invokevirtual 64, 3) := by decide +kernel
theorem dX1_bestQuestion_4 : decode cX1_bestQuestion 4 = .ok (.istore_n 1, 1) := by decide +kernel
theorem dX1_bestQuestion_5 : decode cX1_bestQuestion 5 = .ok (.iload_n 1, 1) := by decide +kernel
theorem dX1_bestQuestion_6 : decode cX1_bestQuestion 6 = .ok (.invokestatic 68, 3) := by decide +kernel
theorem dX1_bestQuestion_9 : decode cX1_bestQuestion 9 = .ok (.istore_n 2, 1) := by decide +kernel
theorem dX1_bestQuestion_10 : decode cX1_bestQuestion 10 = .ok (.iload_n 2, 1) := by decide +kernel
theorem dX1_bestQuestion_11 : decode cX1_bestQuestion 11 = .ok (.istore_n 3, 1) := by decide +kernel
theorem dX1_bestQuestion_12 : decode cX1_bestQuestion 12 = .ok (.bipush (-9), 2) := by decide +kernel
theorem dX1_bestQuestion_14 : decode cX1_bestQuestion 14 = .ok (.istore 4, 2) := by decide +kernel
theorem dX1_bestQuestion_16 : decode cX1_bestQuestion 16 = .ok (.iconst 1, 1) := by decide +kernel
theorem dX1_bestQuestion_17 : decode cX1_bestQuestion 17 = .ok (.istore 5, 2) := by decide +kernel
theorem dX1_bestQuestion_19 : decode cX1_bestQuestion 19 = .ok (.iload 5, 2) := by decide +kernel
theorem dX1_bestQuestion_21 : decode cX1_bestQuestion 21 = .ok (.bipush 99, 2) := by decide +kernel
theorem dX1_bestQuestion_23 : decode cX1_bestQuestion 23 = .ok (.if_icmp .gt 46, 3) := by decide +kernel
theorem dX1_bestQuestion_26 : decode cX1_bestQuestion 26 = .ok (.iload_n 1, 1) := by decide +kernel
theorem dX1_bestQuestion_27 : decode cX1_bestQuestion 27 = .ok (.aload_n 0, 1) := by decide +kernel
theorem dX1_bestQuestion_28 : decode cX1_bestQuestion 28 = .ok (.iload 5, 2) := by decide +kernel
theorem dX1_bestQuestion_30 : decode cX1_bestQuestion 30 = .ok (.invokevirtual 48, 3) := by decide +kernel
theorem dX1_bestQuestion_33 : decode cX1_bestQuestion 33 = .ok (.iand, 1) := by decide +kernel
theorem dX1_bestQuestion_34 : decode cX1_bestQuestion 34 = .ok (.invokestatic 68, 3) := by decide +kernel
theorem dX1_bestQuestion_37 : decode cX1_bestQuestion 37 = .ok (.istore 6, 2) := by decide +kernel
theorem dX1_bestQuestion_39 : decode cX1_bestQuestion 39 = .ok (.iload 6, 2) := by decide +kernel
theorem dX1_bestQuestion_41 : decode cX1_bestQuestion 41 = .ok (.iload_n 2, 1) := by decide +kernel
theorem dX1_bestQuestion_42 : decode cX1_bestQuestion 42 = .ok (.iload 6, 2) := by decide +kernel
theorem dX1_bestQuestion_44 : decode cX1_bestQuestion 44 = .ok (.isub, 1) := by decide +kernel
theorem dX1_bestQuestion_45 : decode cX1_bestQuestion 45 = .ok (.invokestatic 73, 3) := by decide +kernel
theorem dX1_bestQuestion_48 : decode cX1_bestQuestion 48 = .ok (.istore 7, 2) := by decide +kernel
theorem dX1_bestQuestion_50 : decode cX1_bestQuestion 50 = .ok (.iload 7, 2) := by decide +kernel
theorem dX1_bestQuestion_52 : decode cX1_bestQuestion 52 = .ok (.iload_n 3, 1) := by decide +kernel
theorem dX1_bestQuestion_53 : decode cX1_bestQuestion 53 = .ok (.if_icmp .ge 10, 3) := by decide +kernel
theorem dX1_bestQuestion_56 : decode cX1_bestQuestion 56 = .ok (.iload 7, 2) := by decide +kernel
theorem dX1_bestQuestion_58 : decode cX1_bestQuestion 58 = .ok (.istore_n 3, 1) := by decide +kernel
theorem dX1_bestQuestion_59 : decode cX1_bestQuestion 59 = .ok (.iload 5, 2) := by decide +kernel
theorem dX1_bestQuestion_61 : decode cX1_bestQuestion 61 = .ok (.istore 4, 2) := by decide +kernel
theorem dX1_bestQuestion_63 : decode cX1_bestQuestion 63 = .ok (.iinc 5 1, 3) := by decide +kernel
theorem dX1_bestQuestion_66 : decode cX1_bestQuestion 66 = .ok (.goto (-47), 3) := by decide +kernel
theorem dX1_bestQuestion_69 : decode cX1_bestQuestion 69 = .ok (.iload 4, 2) := by decide +kernel
theorem dX1_bestQuestion_71 : decode cX1_bestQuestion 71 = .ok (.ireturn, 1) := by decide +kernel
theorem dX2_init_0 : decode cX2_init 0 = .ok (.aload_n 0, 1) := by decide +kernel
theorem dX2_init_1 : decode cX2_init 1 = .ok (.invokespecial 3, 3) := by decide +kernel
theorem dX2_init_4 : decode cX2_init 4 = .ok (.aload_n 0, 1) := by decide +kernel
theorem dX2_init_5 : decode cX2_init 5 = .ok (.aload_n 1, 1) := by decide +kernel
theorem dX2_init_6 : decode cX2_init 6 = .ok (.putfield 9, 3) := by decide +kernel
theorem dX2_init_9 : decode cX2_init 9 = .ok (.aload_n 0, 1) := by decide +kernel
theorem dX2_init_10 : decode cX2_init 10 = .ok (.aload_n 2, 1) := by decide +kernel
theorem dX2_init_11 : decode cX2_init 11 = .ok (.putfield 15, 3) := by decide +kernel
theorem dX2_init_14 : decode cX2_init 14 = .ok (.return_, 1) := by decide +kernel
set_option maxRecDepth 20000 in
theorem ggX2_whoseIs_X10_at : GoodIn wsX2_whoseIs wsX10_at := goodIn_r _ [5] (by decide +kernel) (by decide +kernel)
set_option maxRecDepth 20000 in
theorem gX2_whoseIs_X10_at_n25 : GoodIn wsX2_whoseIs (wsX10_at) := ggX2_whoseIs_X10_at
set_option maxRecDepth 20000 in
theorem ggX2_whoseIs_X5_isGone : GoodIn wsX2_whoseIs wsX5_isGone := goodIn_r _ [9, 10, 11, 12, 7, 13, 14, 15, 16, 17, 18, 3, 4, 5, 19, 20, 21, 22, 23, 36] (by decide +kernel) (by decide +kernel)
set_option maxRecDepth 20000 in
theorem gX2_whoseIs_X5_isGone_n29 : GoodIn wsX2_whoseIs (wsX5_isGone) := ggX2_whoseIs_X5_isGone
set_option maxRecDepth 20000 in
theorem ggX2_whoseIs_X5_get : GoodIn wsX2_whoseIs wsX5_get := goodIn_r _ [17, 18, 3, 4, 5, 36] (by decide +kernel) (by decide +kernel)
set_option maxRecDepth 20000 in
theorem gX2_whoseIs_X5_get_n35 : GoodIn wsX2_whoseIs (wsX5_get) := ggX2_whoseIs_X5_get
theorem dX2_whoseIs_0 : decode cX2_whoseIs 0 = .ok (.aload_n 0, 1) := by decide +kernel
theorem dX2_whoseIs_1 : decode cX2_whoseIs 1 = .ok (.getfield 9, 3) := by decide +kernel
theorem dX2_whoseIs_4 : decode cX2_whoseIs 4 = .ok (.getfield 19, 3) := by decide +kernel
theorem dX2_whoseIs_7 : decode cX2_whoseIs 7 = .ok (.iload_n 1, 1) := by decide +kernel
theorem dX2_whoseIs_8 : decode cX2_whoseIs 8 = .ok (.invokestatic 25, 3) := by decide +kernel
theorem dX2_whoseIs_11 : decode cX2_whoseIs 11 = .ok (.istore_n 2, 1) := by decide +kernel
theorem dX2_whoseIs_12 : decode cX2_whoseIs 12 = .ok (.iconst 0, 1) := by decide +kernel
theorem dX2_whoseIs_13 : decode cX2_whoseIs 13 = .ok (.istore_n 3, 1) := by decide +kernel
theorem dX2_whoseIs_14 : decode cX2_whoseIs 14 = .ok (.iload_n 3, 1) := by decide +kernel
theorem dX2_whoseIs_15 : decode cX2_whoseIs 15 = .ok (.bipush 6, 2) := by decide +kernel
theorem dX2_whoseIs_17 : decode cX2_whoseIs 17 = .ok (.if_icmp .ge 33, 3) := by decide +kernel
theorem dX2_whoseIs_20 : decode cX2_whoseIs 20 = .ok (.aload_n 0, 1) := by decide +kernel
theorem dX2_whoseIs_21 : decode cX2_whoseIs 21 = .ok (.getfield 15, 3) := by decide +kernel
theorem dX2_whoseIs_24 : decode cX2_whoseIs 24 = .ok (.iload_n 2, 1) := by decide +kernel
theorem dX2_whoseIs_25 : decode cX2_whoseIs 25 = .ok (.invokevirtual 29, 3) := by decide +kernel
theorem dX2_whoseIs_28 : decode cX2_whoseIs 28 = .ok (.ifCond .ne 5, 3) := by decide +kernel
theorem dX2_whoseIs_31 : decode cX2_whoseIs 31 = .ok (.iload_n 2, 1) := by decide +kernel
theorem dX2_whoseIs_32 : decode cX2_whoseIs 32 = .ok (.ireturn, 1) := by decide +kernel
theorem dX2_whoseIs_33 : decode cX2_whoseIs 33 = .ok (.aload_n 0, 1) := by decide +kernel
theorem dX2_whoseIs_34 : decode cX2_whoseIs 34 = .ok (.getfield 15, 3) := by decide +kernel
theorem dX2_whoseIs_37 : decode cX2_whoseIs 37 = .ok (.bipush 32, 2) := by decide +kernel
theorem dX2_whoseIs_39 : decode cX2_whoseIs 39 = .ok (.iload_n 2, 1) := by decide +kernel
theorem dX2_whoseIs_40 : decode cX2_whoseIs 40 = .ok (.invokevirtual 35, 3) := by decide +kernel
theorem dX2_whoseIs_43 : decode cX2_whoseIs 43 = .ok (.istore_n 2, 1) := by decide +kernel
theorem dX2_whoseIs_44 : decode cX2_whoseIs 44 = .ok (.iinc 3 1, 3) := by decide +kernel
theorem dX2_whoseIs_47 : decode cX2_whoseIs 47 = .ok (.goto (-33), 3) := by decide +kernel
theorem dX2_whoseIs_50 : decode cX2_whoseIs 50 = .ok (.bipush (-9), 2) := by decide +kernel
theorem dX2_whoseIs_52 : decode cX2_whoseIs 52 = .ok (.ireturn, 1) := by decide +kernel
set_option maxRecDepth 20000 in
theorem ggX2_valueOf_X10_at : GoodIn wsX2_valueOf wsX10_at := goodIn_r _ [9] (by decide +kernel) (by decide +kernel)
set_option maxRecDepth 20000 in
theorem gX2_valueOf_X10_at_n25 : GoodIn wsX2_valueOf (wsX10_at) := ggX2_valueOf_X10_at
set_option maxRecDepth 20000 in
theorem ggX2_valueOf_X5_get : GoodIn wsX2_valueOf wsX5_get := goodIn_r _ [13, 14, 7, 8, 9, 27] (by decide +kernel) (by decide +kernel)
set_option maxRecDepth 20000 in
theorem gX2_valueOf_X5_get_n35 : GoodIn wsX2_valueOf (wsX5_get) := ggX2_valueOf_X5_get
theorem dX2_valueOf_0 : decode cX2_valueOf 0 = .ok (.aload_n 0, 1) := by decide +kernel
theorem dX2_valueOf_1 : decode cX2_valueOf 1 = .ok (.getfield 9, 3) := by decide +kernel
theorem dX2_valueOf_4 : decode cX2_valueOf 4 = .ok (.getfield 39, 3) := by decide +kernel
theorem dX2_valueOf_7 : decode cX2_valueOf 7 = .ok (.iload_n 1, 1) := by decide +kernel
theorem dX2_valueOf_8 : decode cX2_valueOf 8 = .ok (.invokestatic 25, 3) := by decide +kernel
theorem dX2_valueOf_11 : decode cX2_valueOf 11 = .ok (.aload_n 0, 1) := by decide +kernel
theorem dX2_valueOf_12 : decode cX2_valueOf 12 = .ok (.getfield 15, 3) := by decide +kernel
theorem dX2_valueOf_15 : decode cX2_valueOf 15 = .ok (.bipush 16, 2) := by decide +kernel
theorem dX2_valueOf_17 : decode cX2_valueOf 17 = .ok (.iload_n 1, 1) := by decide +kernel
theorem dX2_valueOf_18 : decode cX2_valueOf 18 = .ok (.invokevirtual 35, 3) := by decide +kernel
theorem dX2_valueOf_21 : decode cX2_valueOf 21 = .ok (.isub, 1) := by decide +kernel
theorem dX2_valueOf_22 : decode cX2_valueOf 22 = .ok (.iconst 0, 1) := by decide +kernel
theorem dX2_valueOf_23 : decode cX2_valueOf 23 = .ok (.invokestatic 42, 3) := by decide +kernel
theorem dX2_valueOf_26 : decode cX2_valueOf 26 = .ok (.ireturn, 1) := by decide +kernel
set_option maxRecDepth 20000 in
theorem ggX2_mayHaul_X5_lies : GoodIn wsX2_mayHaul wsX5_lies := goodIn_r _ [6, 7, 8, 9, 4, 10, 11, 12, 13, 14, 46] (by decide +kernel) (by decide +kernel)
set_option maxRecDepth 20000 in
theorem gX2_mayHaul_X5_lies_n47 : GoodIn wsX2_mayHaul (wsX5_lies) := ggX2_mayHaul_X5_lies
set_option maxRecDepth 20000 in
theorem ggX2_mayHaul_X2_whoseIs : GoodIn wsX2_mayHaul wsX2_whoseIs := goodIn_r _ [19, 2, 1, 12, 13, 14, 20, 4, 21, 22, 23, 24, 25, 26, 7, 8, 9, 10, 11, 27, 28, 29, 30, 31, 34, 35, 36, 37, 38, 39, 40, 41, 42, 43, 44, 45, 46] (by decide +kernel) (by decide +kernel)
set_option maxRecDepth 20000 in
theorem gX2_mayHaul_X2_whoseIs : GoodIn wsX2_mayHaul (wsV RX2 50 RX2 yX2_whoseIs wsX2_whoseIs) := goodIn_app (goodIn_of _ (by decide +kernel)) ggX2_mayHaul_X2_whoseIs
set_option maxRecDepth 20000 in
theorem ggX2_mayHaul_X5_get : GoodIn wsX2_mayHaul wsX5_get := goodIn_r _ [10, 11, 12, 13, 14, 46] (by decide +kernel) (by decide +kernel)
set_option maxRecDepth 20000 in
theorem gX2_mayHaul_X5_get_n35 : GoodIn wsX2_mayHaul (wsX5_get) := ggX2_mayHaul_X5_get
set_option maxRecDepth 20000 in
theorem ggX2_mayHaul_X10_lyingIn : GoodIn wsX2_mayHaul wsX10_lyingIn := goodIn_r _ [33, 3, 4, 5, 6, 7, 8, 9, 10, 11, 12, 13, 14, 29, 30, 31, 36, 37, 38, 39, 40, 41, 42, 43, 44, 45, 46] (by decide +kernel) (by decide +kernel)
set_option maxRecDepth 20000 in
theorem gX2_mayHaul_X10_lyingIn_n54 : GoodIn wsX2_mayHaul (wsX10_lyingIn) := ggX2_mayHaul_X10_lyingIn
set_option maxRecDepth 20000 in
theorem ggX2_mayHaul_X10_has : GoodIn wsX2_mayHaul wsX10_has := goodIn_r _ [28, 29, 30, 13, 31] (by decide +kernel) (by decide +kernel)
set_option maxRecDepth 20000 in
theorem gX2_mayHaul_X10_has_n62 : GoodIn wsX2_mayHaul (wsX10_has) := ggX2_mayHaul_X10_has
theorem dX2_mayHaul_0 : decode cX2_mayHaul 0 = .ok (.aload_n 0, 1) := by decide +kernel
theorem dX2_mayHaul_1 : decode cX2_mayHaul 1 = .ok (.getfield 15, 3) := by decide +kernel
theorem dX2_mayHaul_4 : decode cX2_mayHaul 4 = .ok (.iload_n 2, 1) := by decide +kernel
theorem dX2_mayHaul_5 : decode cX2_mayHaul 5 = .ok (.invokevirtual 47, 3) := by decide +kernel
theorem dX2_mayHaul_8 : decode cX2_mayHaul 8 = .ok (.ifCond .eq 12, 3) := by decide +kernel
theorem dX2_mayHaul_11 : decode cX2_mayHaul 11 = .ok (.aload_n 0, 1) := by decide +kernel
theorem dX2_mayHaul_12 : decode cX2_mayHaul 12 = .ok (.iload_n 2, 1) := by decide +kernel
theorem dX2_mayHaul_13 : decode cX2_mayHaul 13 = .ok (.invokevirtual 50, 3) := by decide +kernel
theorem dX2_mayHaul_16 : decode cX2_mayHaul 16 = .ok (.iload_n 1, 1) := by decide +kernel
theorem dX2_mayHaul_17 : decode cX2_mayHaul 17 = .ok (.if_icmp .eq 5, 3) := by decide +kernel
theorem dX2_mayHaul_20 : decode cX2_mayHaul 20 = .ok (.iconst 0, 1) := by decide +kernel
theorem dX2_mayHaul_21 : decode cX2_mayHaul 21 = .ok (.ireturn, 1) := by decide +kernel
theorem dX2_mayHaul_22 : decode cX2_mayHaul 22 = .ok (.aload_n 0, 1) := by decide +kernel
theorem dX2_mayHaul_23 : decode cX2_mayHaul 23 = .ok (.getfield 9, 3) := by decide +kernel
theorem dX2_mayHaul_26 : decode cX2_mayHaul 26 = .ok (.aload_n 0, 1) := by decide +kernel
theorem dX2_mayHaul_27 : decode cX2_mayHaul 27 = .ok (.getfield 15, 3) := by decide +kernel
theorem dX2_mayHaul_30 : decode cX2_mayHaul 30 = .ok (.aload_n 0, 1) := by decide +kernel
theorem dX2_mayHaul_31 : decode cX2_mayHaul 31 = .ok (.getfield 15, 3) := by decide +kernel
theorem dX2_mayHaul_34 : decode cX2_mayHaul 34 = .ok (.iconst 0, 1) := by decide +kernel
theorem dX2_mayHaul_35 : decode cX2_mayHaul 35 = .ok (.iload_n 2, 1) := by decide +kernel
theorem dX2_mayHaul_36 : decode cX2_mayHaul 36 = .ok (.invokevirtual 35, 3) := by decide +kernel
theorem dX2_mayHaul_39 : decode cX2_mayHaul 39 = .ok (.invokestatic 54, 3) := by decide +kernel
theorem dX2_mayHaul_42 : decode cX2_mayHaul 42 = .ok (.istore_n 3, 1) := by decide +kernel
theorem dX2_mayHaul_43 : decode cX2_mayHaul 43 = .ok (.iconst 0, 1) := by decide +kernel
theorem dX2_mayHaul_44 : decode cX2_mayHaul 44 = .ok (.istore 4, 2) := by decide +kernel
theorem dX2_mayHaul_46 : decode cX2_mayHaul 46 = .ok (.iload 4, 2) := by decide +kernel
theorem dX2_mayHaul_48 : decode cX2_mayHaul 48 = .ok (.aload_n 0, 1) := by decide +kernel
theorem dX2_mayHaul_49 : decode cX2_mayHaul 49 = .ok (.getfield 9, 3) := by decide +kernel
theorem dX2_mayHaul_52 : decode cX2_mayHaul 52 = .ok (.getfield 58, 3) := by decide +kernel
theorem dX2_mayHaul_55 : decode cX2_mayHaul 55 = .ok (.if_icmp .ge 41, 3) := by decide +kernel
theorem dX2_mayHaul_58 : decode cX2_mayHaul 58 = .ok (.aload_n 0, 1) := by decide +kernel
theorem dX2_mayHaul_59 : decode cX2_mayHaul 59 = .ok (.iload 4, 2) := by decide +kernel
theorem dX2_mayHaul_61 : decode cX2_mayHaul 61 = .ok (.invokevirtual 50, 3) := by decide +kernel
theorem dX2_mayHaul_64 : decode cX2_mayHaul 64 = .ok (.istore 5, 2) := by decide +kernel
theorem dX2_mayHaul_66 : decode cX2_mayHaul 66 = .ok (.iload_n 3, 1) := by decide +kernel
theorem dX2_mayHaul_67 : decode cX2_mayHaul 67 = .ok (.iload 4, 2) := by decide +kernel
theorem dX2_mayHaul_69 : decode cX2_mayHaul 69 = .ok (.invokestatic 62, 3) := by decide +kernel
theorem dX2_mayHaul_72 : decode cX2_mayHaul 72 = .ok (.ifCond .eq 18, 3) := by decide +kernel
theorem dX2_mayHaul_75 : decode cX2_mayHaul 75 = .ok (.iload 5, 2) := by decide +kernel
theorem dX2_mayHaul_77 : decode cX2_mayHaul 77 = .ok (.iload_n 1, 1) := by decide +kernel
theorem dX2_mayHaul_78 : decode cX2_mayHaul 78 = .ok (.if_icmp .eq 12, 3) := by decide +kernel
theorem dX2_mayHaul_81 : decode cX2_mayHaul 81 = .ok (.iload 5, 2) := by decide +kernel
theorem dX2_mayHaul_83 : decode cX2_mayHaul 83 = .ok (.bipush (-9), 2) := by decide +kernel
theorem dX2_mayHaul_85 : decode cX2_mayHaul 85 = .ok (.if_icmp .eq 5, 3) := by decide +kernel
theorem dX2_mayHaul_88 : decode cX2_mayHaul 88 = .ok (.iconst 0, 1) := by decide +kernel
theorem dX2_mayHaul_89 : decode cX2_mayHaul 89 = .ok (.ireturn, 1) := by decide +kernel
theorem dX2_mayHaul_90 : decode cX2_mayHaul 90 = .ok (.iinc 4 1, 3) := by decide +kernel
theorem dX2_mayHaul_93 : decode cX2_mayHaul 93 = .ok (.goto (-47), 3) := by decide +kernel
theorem dX2_mayHaul_96 : decode cX2_mayHaul 96 = .ok (.iconst 1, 1) := by decide +kernel
theorem dX2_mayHaul_97 : decode cX2_mayHaul 97 = .ok (.ireturn, 1) := by decide +kernel
set_option maxRecDepth 20000 in
theorem ggX2_estateOf_X5_lies : GoodIn wsX2_estateOf wsX5_lies := goodIn_r _ [6, 7, 8, 9, 4, 10, 11, 12, 13, 14, 52] (by decide +kernel) (by decide +kernel)
set_option maxRecDepth 20000 in
theorem gX2_estateOf_X5_lies_n47 : GoodIn wsX2_estateOf (wsX5_lies) := ggX2_estateOf_X5_lies
set_option maxRecDepth 20000 in
theorem ggX2_estateOf_X2_whoseIs : GoodIn wsX2_estateOf wsX2_whoseIs := goodIn_r _ [19, 1, 2, 12, 13, 14, 20, 4, 21, 22, 23, 24, 25, 26, 7, 8, 9, 10, 11, 27, 28, 29, 30, 31, 40, 41, 42, 43, 44, 45, 46, 47, 48, 49, 50, 51, 52] (by decide +kernel) (by decide +kernel)
set_option maxRecDepth 20000 in
theorem gX2_estateOf_X2_whoseIs : GoodIn wsX2_estateOf (wsV RX2 50 RX2 yX2_whoseIs wsX2_whoseIs) := goodIn_app (goodIn_of _ (by decide +kernel)) ggX2_estateOf_X2_whoseIs
set_option maxRecDepth 20000 in
theorem ggX2_estateOf_X2_valueOf : GoodIn wsX2_estateOf wsX2_valueOf := goodIn_r _ [35, 1, 2, 36, 37, 38, 39, 12, 13, 14, 8, 4, 9, 10, 11, 40, 41, 42, 43, 44, 45, 46, 47, 48, 49, 50, 51, 52] (by decide +kernel) (by decide +kernel)
set_option maxRecDepth 20000 in
theorem gX2_estateOf_X2_valueOf : GoodIn wsX2_estateOf (wsV RX2 66 RX2 yX2_valueOf wsX2_valueOf) := goodIn_app (goodIn_of _ (by decide +kernel)) ggX2_estateOf_X2_valueOf
theorem dX2_estateOf_0 : decode cX2_estateOf 0 = .ok (.iconst 0, 1) := by decide +kernel
theorem dX2_estateOf_1 : decode cX2_estateOf 1 = .ok (.istore_n 2, 1) := by decide +kernel
theorem dX2_estateOf_2 : decode cX2_estateOf 2 = .ok (.iconst 0, 1) := by decide +kernel
theorem dX2_estateOf_3 : decode cX2_estateOf 3 = .ok (.istore_n 3, 1) := by decide +kernel
theorem dX2_estateOf_4 : decode cX2_estateOf 4 = .ok (.iload_n 3, 1) := by decide +kernel
theorem dX2_estateOf_5 : decode cX2_estateOf 5 = .ok (.aload_n 0, 1) := by decide +kernel
theorem dX2_estateOf_6 : decode cX2_estateOf 6 = .ok (.getfield 9, 3) := by decide +kernel
theorem dX2_estateOf_9 : decode cX2_estateOf 9 = .ok (.getfield 58, 3) := by decide +kernel
theorem dX2_estateOf_12 : decode cX2_estateOf 12 = .ok (.if_icmp .ge 37, 3) := by decide +kernel
theorem dX2_estateOf_15 : decode cX2_estateOf 15 = .ok (.aload_n 0, 1) := by decide +kernel
theorem dX2_estateOf_16 : decode cX2_estateOf 16 = .ok (.getfield 15, 3) := by decide +kernel
theorem dX2_estateOf_19 : decode cX2_estateOf 19 = .ok (.iload_n 3, 1) := by decide +kernel
theorem dX2_estateOf_20 : decode cX2_estateOf 20 = .ok (.invokevirtual 47, 3) := by decide +kernel
theorem dX2_estateOf_23 : decode cX2_estateOf 23 = .ok (.ifCond .eq 20, 3) := by decide +kernel
theorem dX2_estateOf_26 : decode cX2_estateOf 26 = .ok (.aload_n 0, 1) := by decide +kernel
theorem dX2_estateOf_27 : decode cX2_estateOf 27 = .ok (.iload_n 3, 1) := by decide +kernel
theorem dX2_estateOf_28 : decode cX2_estateOf 28 = .ok (.invokevirtual 50, 3) := by decide +kernel
theorem dX2_estateOf_31 : decode cX2_estateOf 31 = .ok (.iload_n 1, 1) := by decide +kernel
theorem dX2_estateOf_32 : decode cX2_estateOf 32 = .ok (.if_icmp .ne 11, 3) := by decide +kernel
theorem dX2_estateOf_35 : decode cX2_estateOf 35 = .ok (.iload_n 2, 1) := by decide +kernel
theorem dX2_estateOf_36 : decode cX2_estateOf 36 = .ok (.aload_n 0, 1) := by decide +kernel
theorem dX2_estateOf_37 : decode cX2_estateOf 37 = .ok (.iload_n 3, 1) := by decide +kernel
theorem dX2_estateOf_38 : decode cX2_estateOf 38 = .ok (.invokevirtual 66, 3) := by decide +kernel
theorem dX2_estateOf_41 : decode cX2_estateOf 41 = .ok (.iadd, 1) := by decide +kernel
theorem dX2_estateOf_42 : decode cX2_estateOf 42 = .ok (.istore_n 2, 1) := by decide +kernel
theorem dX2_estateOf_43 : decode cX2_estateOf 43 = .ok (.iinc 3 1, 3) := by decide +kernel
theorem dX2_estateOf_46 : decode cX2_estateOf 46 = .ok (.goto (-42), 3) := by decide +kernel
theorem dX2_estateOf_49 : decode cX2_estateOf 49 = .ok (.iload_n 2, 1) := by decide +kernel
theorem dX2_estateOf_50 : decode cX2_estateOf 50 = .ok (.ireturn, 1) := by decide +kernel
set_option maxRecDepth 20000 in
theorem ggX2_wealthOfAll_X5_get : GoodIn wsX2_wealthOfAll wsX5_get := goodIn_r _ [6, 7, 8, 9, 10, 23] (by decide +kernel) (by decide +kernel)
set_option maxRecDepth 20000 in
theorem gX2_wealthOfAll_X5_get_n35 : GoodIn wsX2_wealthOfAll (wsX5_get) := ggX2_wealthOfAll_X5_get
theorem dX2_wealthOfAll_0 : decode cX2_wealthOfAll 0 = .ok (.iconst 0, 1) := by decide +kernel
theorem dX2_wealthOfAll_1 : decode cX2_wealthOfAll 1 = .ok (.istore_n 1, 1) := by decide +kernel
theorem dX2_wealthOfAll_2 : decode cX2_wealthOfAll 2 = .ok (.iconst 0, 1) := by decide +kernel
theorem dX2_wealthOfAll_3 : decode cX2_wealthOfAll 3 = .ok (.istore_n 2, 1) := by decide +kernel
theorem dX2_wealthOfAll_4 : decode cX2_wealthOfAll 4 = .ok (.iload_n 2, 1) := by decide +kernel
theorem dX2_wealthOfAll_5 : decode cX2_wealthOfAll 5 = .ok (.aload_n 0, 1) := by decide +kernel
theorem dX2_wealthOfAll_6 : decode cX2_wealthOfAll 6 = .ok (.getfield 9, 3) := by decide +kernel
theorem dX2_wealthOfAll_9 : decode cX2_wealthOfAll 9 = .ok (.getfield 69, 3) := by decide +kernel
theorem dX2_wealthOfAll_12 : decode cX2_wealthOfAll 12 = .ok (.if_icmp .ge 22, 3) := by decide +kernel
theorem dX2_wealthOfAll_15 : decode cX2_wealthOfAll 15 = .ok (.iload_n 1, 1) := by decide +kernel
theorem dX2_wealthOfAll_16 : decode cX2_wealthOfAll 16 = .ok (.aload_n 0, 1) := by decide +kernel
theorem dX2_wealthOfAll_17 : decode cX2_wealthOfAll 17 = .ok (.getfield 15, 3) := by decide +kernel
theorem dX2_wealthOfAll_20 : decode cX2_wealthOfAll 20 = .ok (.bipush 38, 2) := by decide +kernel
theorem dX2_wealthOfAll_22 : decode cX2_wealthOfAll 22 = .ok (.iload_n 2, 1) := by decide +kernel
theorem dX2_wealthOfAll_23 : decode cX2_wealthOfAll 23 = .ok (.invokevirtual 35, 3) := by decide +kernel
theorem dX2_wealthOfAll_26 : decode cX2_wealthOfAll 26 = .ok (.iadd, 1) := by decide +kernel
theorem dX2_wealthOfAll_27 : decode cX2_wealthOfAll 27 = .ok (.istore_n 1, 1) := by decide +kernel
theorem dX2_wealthOfAll_28 : decode cX2_wealthOfAll 28 = .ok (.iinc 2 1, 3) := by decide +kernel
theorem dX2_wealthOfAll_31 : decode cX2_wealthOfAll 31 = .ok (.goto (-27), 3) := by decide +kernel
theorem dX2_wealthOfAll_34 : decode cX2_wealthOfAll 34 = .ok (.iload_n 1, 1) := by decide +kernel
theorem dX2_wealthOfAll_35 : decode cX2_wealthOfAll 35 = .ok (.ireturn, 1) := by decide +kernel
set_option maxRecDepth 20000 in
theorem ggX2_townOf_X10_bit : GoodIn wsX2_townOf wsX10_bit := goodIn_r _ [4] (by decide +kernel) (by decide +kernel)
set_option maxRecDepth 20000 in
theorem gX2_townOf_X10_bit_n72 : GoodIn wsX2_townOf (wsX10_bit) := ggX2_townOf_X10_bit
set_option maxRecDepth 20000 in
theorem ggX2_townOf_X10_has : GoodIn wsX2_townOf wsX10_has := goodIn_r _ [6, 7, 2, 3, 4] (by decide +kernel) (by decide +kernel)
set_option maxRecDepth 20000 in
theorem gX2_townOf_X10_has_n62 : GoodIn wsX2_townOf (wsX10_has) := ggX2_townOf_X10_has
set_option maxRecDepth 20000 in
theorem ggX2_townOf_X10_at : GoodIn wsX2_townOf wsX10_at := goodIn_r _ [9] (by decide +kernel) (by decide +kernel)
set_option maxRecDepth 20000 in
theorem gX2_townOf_X10_at_n25 : GoodIn wsX2_townOf (wsX10_at) := ggX2_townOf_X10_at
theorem dX2_townOf_0 : decode cX2_townOf 0 = .ok (.iload_n 1, 1) := by decide +kernel
theorem dX2_townOf_1 : decode cX2_townOf 1 = .ok (.invokestatic 72, 3) := by decide +kernel
theorem dX2_townOf_4 : decode cX2_townOf 4 = .ok (.istore_n 2, 1) := by decide +kernel
theorem dX2_townOf_5 : decode cX2_townOf 5 = .ok (.iconst 0, 1) := by decide +kernel
theorem dX2_townOf_6 : decode cX2_townOf 6 = .ok (.istore_n 3, 1) := by decide +kernel
theorem dX2_townOf_7 : decode cX2_townOf 7 = .ok (.iload_n 3, 1) := by decide +kernel
theorem dX2_townOf_8 : decode cX2_townOf 8 = .ok (.bipush 6, 2) := by decide +kernel
theorem dX2_townOf_10 : decode cX2_townOf 10 = .ok (.if_icmp .ge 54, 3) := by decide +kernel
theorem dX2_townOf_13 : decode cX2_townOf 13 = .ok (.iconst 0, 1) := by decide +kernel
theorem dX2_townOf_14 : decode cX2_townOf 14 = .ok (.istore 4, 2) := by decide +kernel
theorem dX2_townOf_16 : decode cX2_townOf 16 = .ok (.iload 4, 2) := by decide +kernel
theorem dX2_townOf_18 : decode cX2_townOf 18 = .ok (.aload_n 0, 1) := by decide +kernel
theorem dX2_townOf_19 : decode cX2_townOf 19 = .ok (.getfield 9, 3) := by decide +kernel
theorem dX2_townOf_22 : decode cX2_townOf 22 = .ok (.getfield 69, 3) := by decide +kernel
theorem dX2_townOf_25 : decode cX2_townOf 25 = .ok (.if_icmp .ge 33, 3) := by decide +kernel
theorem dX2_townOf_28 : decode cX2_townOf 28 = .ok (.iload_n 2, 1) := by decide +kernel
theorem dX2_townOf_29 : decode cX2_townOf 29 = .ok (.iload 4, 2) := by decide +kernel
theorem dX2_townOf_31 : decode cX2_townOf 31 = .ok (.invokestatic 62, 3) := by decide +kernel
theorem dX2_townOf_34 : decode cX2_townOf 34 = .ok (.ifCond .eq 18, 3) := by decide +kernel
theorem dX2_townOf_37 : decode cX2_townOf 37 = .ok (.iload_n 2, 1) := by decide +kernel
theorem dX2_townOf_38 : decode cX2_townOf 38 = .ok (.aload_n 0, 1) := by decide +kernel
theorem dX2_townOf_39 : decode cX2_townOf 39 = .ok (.getfield 9, 3) := by decide +kernel
theorem dX2_townOf_42 : decode cX2_townOf 42 = .ok (.getfield 75, 3) := by decide +kernel
theorem dX2_townOf_45 : decode cX2_townOf 45 = .ok (.iload 4, 2) := by decide +kernel
theorem dX2_townOf_47 : decode cX2_townOf 47 = .ok (.invokestatic 25, 3) := by decide +kernel
theorem dX2_townOf_50 : decode cX2_townOf 50 = .ok (.ior, 1) := by decide +kernel
theorem dX2_townOf_51 : decode cX2_townOf 51 = .ok (.istore_n 2, 1) := by decide +kernel
theorem dX2_townOf_52 : decode cX2_townOf 52 = .ok (.iinc 4 1, 3) := by decide +kernel
theorem dX2_townOf_55 : decode cX2_townOf 55 = .ok (.goto (-39), 3) := by decide +kernel
theorem dX2_townOf_58 : decode cX2_townOf 58 = .ok (.iinc 3 1, 3) := by decide +kernel
theorem dX2_townOf_61 : decode cX2_townOf 61 = .ok (.goto (-54), 3) := by decide +kernel
theorem dX2_townOf_64 : decode cX2_townOf 64 = .ok (.iload_n 2, 1) := by decide +kernel
theorem dX2_townOf_65 : decode cX2_townOf 65 = .ok (.ireturn, 1) := by decide +kernel
set_option maxRecDepth 20000 in
theorem ggX2_adds_X5_lies : GoodIn wsX2_adds wsX5_lies := goodIn_r _ [6, 7, 8, 9, 4, 10, 11, 12, 13, 14, 32] (by decide +kernel) (by decide +kernel)
set_option maxRecDepth 20000 in
theorem gX2_adds_X5_lies_n47 : GoodIn wsX2_adds (wsX5_lies) := ggX2_adds_X5_lies
set_option maxRecDepth 20000 in
theorem ggX2_adds_X10_at : GoodIn wsX2_adds wsX10_at := goodIn_r _ [14] (by decide +kernel) (by decide +kernel)
set_option maxRecDepth 20000 in
theorem gX2_adds_X10_at_n25 : GoodIn wsX2_adds (wsX10_at) := ggX2_adds_X10_at
set_option maxRecDepth 20000 in
theorem ggX2_adds_X10_has : GoodIn wsX2_adds wsX10_has := goodIn_r _ [16, 17, 18, 13, 19] (by decide +kernel) (by decide +kernel)
set_option maxRecDepth 20000 in
theorem gX2_adds_X10_has_n62 : GoodIn wsX2_adds (wsX10_has) := ggX2_adds_X10_has
theorem dX2_adds_0 : decode cX2_adds 0 = .ok (.aload_n 0, 1) := by decide +kernel
theorem dX2_adds_1 : decode cX2_adds 1 = .ok (.getfield 15, 3) := by decide +kernel
theorem dX2_adds_4 : decode cX2_adds 4 = .ok (.iload_n 2, 1) := by decide +kernel
theorem dX2_adds_5 : decode cX2_adds 5 = .ok (.invokevirtual 47, 3) := by decide +kernel
theorem dX2_adds_8 : decode cX2_adds 8 = .ok (.ifCond .eq 25, 3) := by decide +kernel
theorem dX2_adds_11 : decode cX2_adds 11 = .ok (.iload_n 1, 1) := by decide +kernel
theorem dX2_adds_12 : decode cX2_adds 12 = .ok (.aload_n 0, 1) := by decide +kernel
theorem dX2_adds_13 : decode cX2_adds 13 = .ok (.getfield 9, 3) := by decide +kernel
theorem dX2_adds_16 : decode cX2_adds 16 = .ok (.getfield 19, 3) := by decide +kernel
theorem dX2_adds_19 : decode cX2_adds 19 = .ok (.iload_n 2, 1) := by decide +kernel
theorem dX2_adds_20 : decode cX2_adds 20 = .ok (.invokestatic 25, 3) := by decide +kernel
theorem dX2_adds_23 : decode cX2_adds 23 = .ok (.invokestatic 62, 3) := by decide +kernel
theorem dX2_adds_26 : decode cX2_adds 26 = .ok (.ifCond .eq 7, 3) := by decide +kernel
theorem dX2_adds_29 : decode cX2_adds 29 = .ok (.iconst 1, 1) := by decide +kernel
theorem dX2_adds_30 : decode cX2_adds 30 = .ok (.goto 4, 3) := by decide +kernel
theorem dX2_adds_33 : decode cX2_adds 33 = .ok (.iconst 0, 1) := by decide +kernel
theorem dX2_adds_34 : decode cX2_adds 34 = .ok (.ireturn, 1) := by decide +kernel
set_option maxRecDepth 20000 in
theorem ggX2_mightOf_X2_adds : GoodIn wsX2_mightOf wsX2_adds := goodIn_r _ [7, 2, 1, 8, 9, 10, 11, 12, 13, 14, 15, 16, 17, 18, 19, 20, 21, 22, 23, 24, 38, 39, 40, 41, 42, 43, 44, 45, 46, 47, 48, 49, 50] (by decide +kernel) (by decide +kernel)
set_option maxRecDepth 20000 in
theorem gX2_mightOf_X2_adds : GoodIn wsX2_mightOf (wsV RX2 78 RX2 yX2_adds wsX2_adds) := goodIn_app (goodIn_of _ (by decide +kernel)) ggX2_mightOf_X2_adds
set_option maxRecDepth 20000 in
theorem ggX2_mightOf_X9_strengthOf : GoodIn wsX2_mightOf wsX9_strengthOf := goodIn_r _ [28, 13, 9, 14, 15, 16, 17, 18, 19, 29, 30, 31, 26, 32, 33, 34, 35, 36, 37, 50, 40, 41, 42, 43, 44, 45, 46, 47, 48, 49] (by decide +kernel) (by decide +kernel)
set_option maxRecDepth 20000 in
theorem gX2_mightOf_X9_strengthOf_n81 : GoodIn wsX2_mightOf (wsX9_strengthOf) := ggX2_mightOf_X9_strengthOf
theorem dX2_mightOf_0 : decode cX2_mightOf 0 = .ok (.iconst 0, 1) := by decide +kernel
theorem dX2_mightOf_1 : decode cX2_mightOf 1 = .ok (.istore_n 2, 1) := by decide +kernel
theorem dX2_mightOf_2 : decode cX2_mightOf 2 = .ok (.iconst 0, 1) := by decide +kernel
theorem dX2_mightOf_3 : decode cX2_mightOf 3 = .ok (.istore_n 3, 1) := by decide +kernel
theorem dX2_mightOf_4 : decode cX2_mightOf 4 = .ok (.iload_n 3, 1) := by decide +kernel
theorem dX2_mightOf_5 : decode cX2_mightOf 5 = .ok (.aload_n 0, 1) := by decide +kernel
theorem dX2_mightOf_6 : decode cX2_mightOf 6 = .ok (.getfield 9, 3) := by decide +kernel
theorem dX2_mightOf_9 : decode cX2_mightOf 9 = .ok (.getfield 58, 3) := by decide +kernel
theorem dX2_mightOf_12 : decode cX2_mightOf 12 = .ok (.if_icmp .ge 33, 3) := by decide +kernel
theorem dX2_mightOf_15 : decode cX2_mightOf 15 = .ok (.aload_n 0, 1) := by decide +kernel
theorem dX2_mightOf_16 : decode cX2_mightOf 16 = .ok (.iload_n 1, 1) := by decide +kernel
theorem dX2_mightOf_17 : decode cX2_mightOf 17 = .ok (.iload_n 3, 1) := by decide +kernel
theorem dX2_mightOf_18 : decode cX2_mightOf 18 = .ok (.invokevirtual 78, 3) := by decide +kernel
theorem dX2_mightOf_21 : decode cX2_mightOf 21 = .ok (.ifCond .eq 18, 3) := by decide +kernel
theorem dX2_mightOf_24 : decode cX2_mightOf 24 = .ok (.iload_n 2, 1) := by decide +kernel
theorem dX2_mightOf_25 : decode cX2_mightOf 25 = .ok (.aload_n 0, 1) := by decide +kernel
theorem dX2_mightOf_26 : decode cX2_mightOf 26 = .ok (.getfield 9, 3) := by decide +kernel
theorem dX2_mightOf_29 : decode cX2_mightOf 29 = .ok (.aload_n 0, 1) := by decide +kernel
theorem dX2_mightOf_30 : decode cX2_mightOf 30 = .ok (.getfield 15, 3) := by decide +kernel
theorem dX2_mightOf_33 : decode cX2_mightOf 33 = .ok (.iload_n 3, 1) := by decide +kernel
theorem dX2_mightOf_34 : decode cX2_mightOf 34 = .ok (.invokevirtual 81, 3) := by decide +kernel
theorem dX2_mightOf_37 : decode cX2_mightOf 37 = .ok (.iadd, 1) := by decide +kernel
theorem dX2_mightOf_38 : decode cX2_mightOf 38 = .ok (.istore_n 2, 1) := by decide +kernel
theorem dX2_mightOf_39 : decode cX2_mightOf 39 = .ok (.iinc 3 1, 3) := by decide +kernel
theorem dX2_mightOf_42 : decode cX2_mightOf 42 = .ok (.goto (-38), 3) := by decide +kernel
theorem dX2_mightOf_45 : decode cX2_mightOf 45 = .ok (.iload_n 2, 1) := by decide +kernel
theorem dX2_mightOf_46 : decode cX2_mightOf 46 = .ok (.ireturn, 1) := by decide +kernel
set_option maxRecDepth 20000 in
theorem ggX2_vitalFor_X2_townOf : GoodIn wsX2_vitalFor wsX2_townOf := goodIn_r _ [7, 1, 8, 9, 10, 11, 12, 13, 14, 15, 46, 47, 48, 49, 50, 51, 52, 53, 54, 55, 56, 57] (by decide +kernel) (by decide +kernel)
set_option maxRecDepth 20000 in
theorem gX2_vitalFor_X2_townOf : GoodIn wsX2_vitalFor (wsV RX2 85 RX2 yX2_townOf wsX2_townOf) := goodIn_app (goodIn_of _ (by decide +kernel)) ggX2_vitalFor_X2_townOf
set_option maxRecDepth 20000 in
theorem ggX2_vitalFor_X2_mightOf : GoodIn wsX2_vitalFor wsX2_mightOf := goodIn_r _ [19, 1, 2, 20, 21, 22, 6, 23, 24, 25, 26, 27, 28, 29, 30, 31, 32, 14, 9, 15, 11, 12, 13, 8, 10, 33, 34, 35, 36, 37, 38, 39, 40, 41, 42, 43, 44, 45, 46, 47, 48, 49, 50, 51, 52, 53, 54, 55, 56, 57, 58] (by decide +kernel) (by decide +kernel)
set_option maxRecDepth 20000 in
theorem gX2_vitalFor_X2_mightOf : GoodIn wsX2_vitalFor (wsV RX2 88 RX2 yX2_mightOf wsX2_mightOf) := goodIn_app (goodIn_of _ (by decide +kernel)) ggX2_vitalFor_X2_mightOf
set_option maxRecDepth 20000 in
theorem ggX2_vitalFor_X2_adds : GoodIn wsX2_vitalFor wsX2_adds := goodIn_r _ [23, 2, 1, 24, 25, 26, 27, 28, 29, 30, 31, 32, 14, 9, 15, 11, 12, 13, 8, 10, 46, 47, 48, 49, 50, 51, 52, 53, 54, 55, 56, 57, 58] (by decide +kernel) (by decide +kernel)
set_option maxRecDepth 20000 in
theorem gX2_vitalFor_X2_adds : GoodIn wsX2_vitalFor (wsV RX2 78 RX2 yX2_adds wsX2_adds) := goodIn_app (goodIn_of _ (by decide +kernel)) ggX2_vitalFor_X2_adds
set_option maxRecDepth 20000 in
theorem ggX2_vitalFor_X9_strengthOf : GoodIn wsX2_vitalFor wsX9_strengthOf := goodIn_r _ [36, 29, 25, 30, 31, 32, 14, 9, 15, 37, 38, 39, 34, 40, 41, 42, 43, 44, 45, 58, 48, 49, 50, 51, 52, 53, 54, 55, 56, 57] (by decide +kernel) (by decide +kernel)
set_option maxRecDepth 20000 in
theorem gX2_vitalFor_X9_strengthOf_n81 : GoodIn wsX2_vitalFor (wsX9_strengthOf) := ggX2_vitalFor_X9_strengthOf
set_option maxRecDepth 20000 in
theorem ggX2_vitalFor_X10_bit : GoodIn wsX2_vitalFor wsX10_bit := goodIn_r _ [10] (by decide +kernel) (by decide +kernel)
set_option maxRecDepth 20000 in
theorem gX2_vitalFor_X10_bit_n72 : GoodIn wsX2_vitalFor (wsX10_bit) := ggX2_vitalFor_X10_bit
theorem dX2_vitalFor_0 : decode cX2_vitalFor 0 = .ok (.aload_n 0, 1) := by decide +kernel
theorem dX2_vitalFor_1 : decode cX2_vitalFor 1 = .ok (.iload_n 1, 1) := by decide +kernel
theorem dX2_vitalFor_2 : decode cX2_vitalFor 2 = .ok (.invokevirtual 85, 3) := by decide +kernel
theorem dX2_vitalFor_5 : decode cX2_vitalFor 5 = .ok (.istore_n 3, 1) := by decide +kernel
theorem dX2_vitalFor_6 : decode cX2_vitalFor 6 = .ok (.aload_n 0, 1) := by decide +kernel
theorem dX2_vitalFor_7 : decode cX2_vitalFor 7 = .ok (.iload_n 3, 1) := by decide +kernel
theorem dX2_vitalFor_8 : decode cX2_vitalFor 8 = .ok (.invokevirtual 88, 3) := by decide +kernel
theorem dX2_vitalFor_11 : decode cX2_vitalFor 11 = .ok (.istore 4, 2) := by decide +kernel
theorem dX2_vitalFor_13 : decode cX2_vitalFor 13 = .ok (.iconst 0, 1) := by decide +kernel
theorem dX2_vitalFor_14 : decode cX2_vitalFor 14 = .ok (.istore 5, 2) := by decide +kernel
theorem dX2_vitalFor_16 : decode cX2_vitalFor 16 = .ok (.iconst 0, 1) := by decide +kernel
theorem dX2_vitalFor_17 : decode cX2_vitalFor 17 = .ok (.istore 6, 2) := by decide +kernel
theorem dX2_vitalFor_19 : decode cX2_vitalFor 19 = .ok (.iload 6, 2) := by decide +kernel
theorem dX2_vitalFor_21 : decode cX2_vitalFor 21 = .ok (.aload_n 0, 1) := by decide +kernel
theorem dX2_vitalFor_22 : decode cX2_vitalFor 22 = .ok (.getfield 9, 3) := by decide +kernel
theorem dX2_vitalFor_25 : decode cX2_vitalFor 25 = .ok (.getfield 58, 3) := by decide +kernel
theorem dX2_vitalFor_28 : decode cX2_vitalFor 28 = .ok (.if_icmp .ge 55, 3) := by decide +kernel
theorem dX2_vitalFor_31 : decode cX2_vitalFor 31 = .ok (.aload_n 0, 1) := by decide +kernel
theorem dX2_vitalFor_32 : decode cX2_vitalFor 32 = .ok (.iload_n 3, 1) := by decide +kernel
theorem dX2_vitalFor_33 : decode cX2_vitalFor 33 = .ok (.iload 6, 2) := by decide +kernel
theorem dX2_vitalFor_35 : decode cX2_vitalFor 35 = .ok (.invokevirtual 78, 3) := by decide +kernel
theorem dX2_vitalFor_38 : decode cX2_vitalFor 38 = .ok (.ifCond .eq 39, 3) := by decide +kernel
theorem dX2_vitalFor_41 : decode cX2_vitalFor 41 = .ok (.iload 4, 2) := by decide +kernel
theorem dX2_vitalFor_43 : decode cX2_vitalFor 43 = .ok (.iload_n 2, 1) := by decide +kernel
theorem dX2_vitalFor_44 : decode cX2_vitalFor 44 = .ok (.if_icmp .lt 33, 3) := by decide +kernel
theorem dX2_vitalFor_47 : decode cX2_vitalFor 47 = .ok (.iload 4, 2) := by decide +kernel
theorem dX2_vitalFor_49 : decode cX2_vitalFor 49 = .ok (.aload_n 0, 1) := by decide +kernel
theorem dX2_vitalFor_50 : decode cX2_vitalFor 50 = .ok (.getfield 9, 3) := by decide +kernel
theorem dX2_vitalFor_53 : decode cX2_vitalFor 53 = .ok (.aload_n 0, 1) := by decide +kernel
theorem dX2_vitalFor_54 : decode cX2_vitalFor 54 = .ok (.getfield 15, 3) := by decide +kernel
theorem dX2_vitalFor_57 : decode cX2_vitalFor 57 = .ok (.iload 6, 2) := by decide +kernel
theorem dX2_vitalFor_59 : decode cX2_vitalFor 59 = .ok (.invokevirtual 81, 3) := by decide +kernel
theorem dX2_vitalFor_62 : decode cX2_vitalFor 62 = .ok (.isub, 1) := by decide +kernel
theorem dX2_vitalFor_63 : decode cX2_vitalFor 63 = .ok (.iload_n 2, 1) := by decide +kernel
theorem dX2_vitalFor_64 : decode cX2_vitalFor 64 = .ok (.if_icmp .ge 13, 3) := by decide +kernel
theorem dX2_vitalFor_67 : decode cX2_vitalFor 67 = .ok (.iload 5, 2) := by decide +kernel
theorem dX2_vitalFor_69 : decode cX2_vitalFor 69 = .ok (.iload 6, 2) := by decide +kernel
theorem dX2_vitalFor_71 : decode cX2_vitalFor 71 = .ok (.invokestatic 72, 3) := by decide +kernel
theorem dX2_vitalFor_74 : decode cX2_vitalFor 74 = .ok (.ior, 1) := by decide +kernel
theorem dX2_vitalFor_75 : decode cX2_vitalFor 75 = .ok (.istore 5, 2) := by decide +kernel
theorem dX2_vitalFor_77 : decode cX2_vitalFor 77 = .ok (.iinc 6 1, 3) := by decide +kernel
theorem dX2_vitalFor_80 : decode cX2_vitalFor 80 = .ok (.goto (-61), 3) := by decide +kernel
theorem dX2_vitalFor_83 : decode cX2_vitalFor 83 = .ok (.iload 5, 2) := by decide +kernel
theorem dX2_vitalFor_85 : decode cX2_vitalFor 85 = .ok (.ireturn, 1) := by decide +kernel
set_option maxRecDepth 20000 in
theorem ggX3_init_X5_init : GoodIn wsX3_init wsX5_init := goodIn_r _ [13, 14, 2, 3, 15, 16, 21] (by decide +kernel) (by decide +kernel)
set_option maxRecDepth 20000 in
theorem gX3_init_X5_init_n9 : GoodIn wsX3_init (wsX5_init) := ggX3_init_X5_init
set_option maxRecDepth 20000 in
theorem ggX3_init_X6_init : GoodIn wsX3_init wsX6_init := goodIn_r _ [18, 19, 2, 3, 15, 20, 25, 26] (by decide +kernel) (by decide +kernel)
set_option maxRecDepth 20000 in
theorem gX3_init_X6_init_n18 : GoodIn wsX3_init (wsX6_init) := ggX3_init_X6_init
theorem dX3_init_0 : decode cX3_init 0 = .ok (.aload_n 0, 1) := by decide +kernel
theorem dX3_init_1 : decode cX3_init 1 = .ok (.invokespecial 1, 3) := by decide +kernel
theorem dX3_init_4 : decode cX3_init 4 = .ok (.aload_n 0, 1) := by decide +kernel
theorem dX3_init_5 : decode cX3_init 5 = .ok (.new 7, 3) := by decide +kernel
theorem dX3_init_8 : decode cX3_init 8 = .ok (.dup, 1) := by decide +kernel
theorem dX3_init_9 : decode cX3_init 9 = .ok (.invokespecial 9, 3) := by decide +kernel
theorem dX3_init_12 : decode cX3_init 12 = .ok (.putfield 10, 3) := by decide +kernel
theorem dX3_init_15 : decode cX3_init 15 = .ok (.aload_n 0, 1) := by decide +kernel
theorem dX3_init_16 : decode cX3_init 16 = .ok (.new 16, 3) := by decide +kernel
theorem dX3_init_19 : decode cX3_init 19 = .ok (.dup, 1) := by decide +kernel
theorem dX3_init_20 : decode cX3_init 20 = .ok (.invokespecial 18, 3) := by decide +kernel
theorem dX3_init_23 : decode cX3_init 23 = .ok (.putfield 19, 3) := by decide +kernel
theorem dX3_init_26 : decode cX3_init 26 = .ok (.return_, 1) := by decide +kernel
set_option maxRecDepth 20000 in
theorem ggX3_keeps_X5_becomes : GoodIn wsX3_keeps wsX5_becomes := goodIn_r _ [7, 8, 9, 10, 11, 12, 13, 14, 15, 25] (by decide +kernel) (by decide +kernel)
set_option maxRecDepth 20000 in
theorem gX3_keeps_X5_becomes_n23 : GoodIn wsX3_keeps (wsX5_becomes) := ggX3_keeps_X5_becomes
set_option maxRecDepth 20000 in
theorem ggX3_keeps_X6_becomes : GoodIn wsX3_keeps wsX6_becomes := goodIn_r _ [19, 20, 21, 9, 10, 11, 12, 13, 14, 15, 26, 27] (by decide +kernel) (by decide +kernel)
set_option maxRecDepth 20000 in
theorem gX3_keeps_X6_becomes_n27 : GoodIn wsX3_keeps (wsX6_becomes) := ggX3_keeps_X6_becomes
theorem dX3_keeps_0 : decode cX3_keeps 0 = .ok (.aload_n 0, 1) := by decide +kernel
theorem dX3_keeps_1 : decode cX3_keeps 1 = .ok (.getfield 10, 3) := by decide +kernel
theorem dX3_keeps_4 : decode cX3_keeps 4 = .ok (.aload_n 1, 1) := by decide +kernel
theorem dX3_keeps_5 : decode cX3_keeps 5 = .ok (.invokevirtual 23, 3) := by decide +kernel
theorem dX3_keeps_8 : decode cX3_keeps 8 = .ok (.aload_n 0, 1) := by decide +kernel
theorem dX3_keeps_9 : decode cX3_keeps 9 = .ok (.getfield 19, 3) := by decide +kernel
theorem dX3_keeps_12 : decode cX3_keeps 12 = .ok (.aload_n 2, 1) := by decide +kernel
theorem dX3_keeps_13 : decode cX3_keeps 13 = .ok (.invokevirtual 27, 3) := by decide +kernel
theorem dX3_keeps_16 : decode cX3_keeps 16 = .ok (.aload_n 0, 1) := by decide +kernel
theorem dX3_keeps_17 : decode cX3_keeps 17 = .ok (.iconst 1, 1) := by decide +kernel
theorem dX3_keeps_18 : decode cX3_keeps 18 = .ok (.putfield 30, 3) := by decide +kernel
theorem dX3_keeps_21 : decode cX3_keeps 21 = .ok (.return_, 1) := by decide +kernel
set_option maxRecDepth 20000 in
theorem ggX3_givesBack_X5_becomes : GoodIn wsX3_givesBack wsX5_becomes := goodIn_r _ [6, 7, 8, 9, 10, 11, 12, 13, 14, 24] (by decide +kernel) (by decide +kernel)
set_option maxRecDepth 20000 in
theorem gX3_givesBack_X5_becomes_n23 : GoodIn wsX3_givesBack (wsX5_becomes) := ggX3_givesBack_X5_becomes
set_option maxRecDepth 20000 in
theorem ggX3_givesBack_X6_becomes : GoodIn wsX3_givesBack wsX6_becomes := goodIn_r _ [18, 19, 20, 8, 9, 10, 11, 12, 13, 14, 25, 26] (by decide +kernel) (by decide +kernel)
set_option maxRecDepth 20000 in
theorem gX3_givesBack_X6_becomes_n27 : GoodIn wsX3_givesBack (wsX6_becomes) := ggX3_givesBack_X6_becomes
theorem dX3_givesBack_0 : decode cX3_givesBack 0 = .ok (.aload_n 1, 1) := by decide +kernel
theorem dX3_givesBack_1 : decode cX3_givesBack 1 = .ok (.aload_n 0, 1) := by decide +kernel
theorem dX3_givesBack_2 : decode cX3_givesBack 2 = .ok (.getfield 10, 3) := by decide +kernel
theorem dX3_givesBack_5 : decode cX3_givesBack 5 = .ok (.invokevirtual 23, 3) := by decide +kernel
theorem dX3_givesBack_8 : decode cX3_givesBack 8 = .ok (.aload_n 2, 1) := by decide +kernel
theorem dX3_givesBack_9 : decode cX3_givesBack 9 = .ok (.aload_n 0, 1) := by decide +kernel
theorem dX3_givesBack_10 : decode cX3_givesBack 10 = .ok (.getfield 19, 3) := by decide +kernel
theorem dX3_givesBack_13 : decode cX3_givesBack 13 = .ok (.invokevirtual 27, 3) := by decide +kernel
theorem dX3_givesBack_16 : decode cX3_givesBack 16 = .ok (.return_, 1) := by decide +kernel
theorem dX4_init_0 : decode cX4_init 0 = .ok (.aload_n 0, 1) := by decide +kernel
theorem dX4_init_1 : decode cX4_init 1 = .ok (.invokespecial 1, 3) := by decide +kernel
theorem dX4_init_4 : decode cX4_init 4 = .ok (.aload_n 0, 1) := by decide +kernel
theorem dX4_init_5 : decode cX4_init 5 = .ok (.aload_n 1, 1) := by decide +kernel
theorem dX4_init_6 : decode cX4_init 6 = .ok (.putfield 7, 3) := by decide +kernel
theorem dX4_init_9 : decode cX4_init 9 = .ok (.aload_n 0, 1) := by decide +kernel
theorem dX4_init_10 : decode cX4_init 10 = .ok (.aload_n 2, 1) := by decide +kernel
theorem dX4_init_11 : decode cX4_init 11 = .ok (.putfield 13, 3) := by decide +kernel
theorem dX4_init_14 : decode cX4_init 14 = .ok (.return_, 1) := by decide +kernel
set_option maxRecDepth 20000 in
theorem ggX4_markAs_X10_at : GoodIn wsX4_markAs wsX10_at := goodIn_r _ [8] (by decide +kernel) (by decide +kernel)
set_option maxRecDepth 20000 in
theorem gX4_markAs_X10_at_n25 : GoodIn wsX4_markAs (wsX10_at) := ggX4_markAs_X10_at
set_option maxRecDepth 20000 in
theorem ggX4_markAs_X9_strengthOf : GoodIn wsX4_markAs wsX9_strengthOf := goodIn_r _ [12, 13, 14, 15, 16, 17, 6, 7, 8, 18, 19, 20, 10, 21, 22, 23, 24, 25, 26, 43, 33, 34, 35, 36, 37, 38, 39, 40, 41, 42] (by decide +kernel) (by decide +kernel)
set_option maxRecDepth 20000 in
theorem gX4_markAs_X9_strengthOf_n31 : GoodIn wsX4_markAs (wsX9_strengthOf) := ggX4_markAs_X9_strengthOf
set_option maxRecDepth 20000 in
theorem ggX4_markAs_X4_markAs : GoodIn wsX4_markAs wsX4_markAs := goodIn_r _ [0, 1, 2, 3, 4, 5, 6, 7, 8, 9, 10, 11, 12, 13, 14, 15, 16, 17, 18, 19, 20, 21, 22, 23, 24, 25, 26, 27, 28, 29, 30, 31, 32, 33, 34, 35, 36, 37, 38, 39, 40, 41, 42, 43] (by decide +kernel) (by decide +kernel)
set_option maxRecDepth 20000 in
theorem gX4_markAs_X4_markAs : GoodIn wsX4_markAs (va_wsS RX4 40 yX4_markAs wsX4_markAs) := goodIn_app (goodIn_of _ (by decide +kernel)) ggX4_markAs_X4_markAs
set_option maxRecDepth 20000 in
theorem ggX4_markAs_X5_get : GoodIn wsX4_markAs wsX5_get := goodIn_r _ [16, 17, 6, 7, 8, 43] (by decide +kernel) (by decide +kernel)
set_option maxRecDepth 20000 in
theorem gX4_markAs_X5_get_n49 : GoodIn wsX4_markAs (wsX5_get) := ggX4_markAs_X5_get
theorem dX4_markAs_0 : decode cX4_markAs 0 = .ok (.iload_n 3, 1) := by decide +kernel
theorem dX4_markAs_1 : decode cX4_markAs 1 = .ok (.iconst 1, 1) := by decide +kernel
theorem dX4_markAs_2 : decode cX4_markAs 2 = .ok (.if_icmp .ge 5, 3) := by decide +kernel
theorem dX4_markAs_5 : decode cX4_markAs 5 = .ok (.iconst 0, 1) := by decide +kernel
theorem dX4_markAs_6 : decode cX4_markAs 6 = .ok (.ireturn, 1) := by decide +kernel
theorem dX4_markAs_7 : decode cX4_markAs 7 = .ok (.aload_n 0, 1) := by decide +kernel
theorem dX4_markAs_8 : decode cX4_markAs 8 = .ok (.dup, 1) := by decide +kernel
theorem dX4_markAs_9 : decode cX4_markAs 9 = .ok (.getfield 17, 3) := by decide +kernel
theorem dX4_markAs_12 : decode cX4_markAs 12 = .ok (.getstatic 21, 3) := by decide +kernel
theorem dX4_markAs_15 : decode cX4_markAs 15 = .ok (.iload_n 1, 1) := by decide +kernel
theorem dX4_markAs_16 : decode cX4_markAs 16 = .ok (.invokestatic 25, 3) := by decide +kernel
theorem dX4_markAs_19 : decode cX4_markAs 19 = .ok (.i2l, 1) := by decide +kernel
theorem dX4_markAs_20 : decode cX4_markAs 20 = .ok (.ladd, 1) := by decide +kernel
theorem dX4_markAs_21 : decode cX4_markAs 21 = .ok (.putfield 17, 3) := by decide +kernel
theorem dX4_markAs_24 : decode cX4_markAs 24 = .ok (.iload_n 1, 1) := by decide +kernel
theorem dX4_markAs_25 : decode cX4_markAs 25 = .ok (.ifCond .ne 16, 3) := by decide +kernel
theorem dX4_markAs_28 : decode cX4_markAs 28 = .ok (.aload_n 0, 1) := by decide +kernel
theorem dX4_markAs_29 : decode cX4_markAs 29 = .ok (.getfield 7, 3) := by decide +kernel
theorem dX4_markAs_32 : decode cX4_markAs 32 = .ok (.aload_n 0, 1) := by decide +kernel
theorem dX4_markAs_33 : decode cX4_markAs 33 = .ok (.getfield 13, 3) := by decide +kernel
theorem dX4_markAs_36 : decode cX4_markAs 36 = .ok (.iload_n 2, 1) := by decide +kernel
theorem dX4_markAs_37 : decode cX4_markAs 37 = .ok (.invokevirtual 31, 3) := by decide +kernel
theorem dX4_markAs_40 : decode cX4_markAs 40 = .ok (.ireturn, 1) := by decide +kernel
theorem dX4_markAs_41 : decode cX4_markAs 41 = .ok (.aload_n 0, 1) := by decide +kernel
theorem dX4_markAs_42 : decode cX4_markAs 42 = .ok (.getstatic 37, 3) := by decide +kernel
theorem dX4_markAs_45 : decode cX4_markAs 45 = .ok (.iload_n 1, 1) := by decide +kernel
theorem dX4_markAs_46 : decode cX4_markAs 46 = .ok (.invokestatic 25, 3) := by decide +kernel
theorem dX4_markAs_49 : decode cX4_markAs 49 = .ok (.iload_n 2, 1) := by decide +kernel
theorem dX4_markAs_50 : decode cX4_markAs 50 = .ok (.iload_n 3, 1) := by decide +kernel
theorem dX4_markAs_51 : decode cX4_markAs 51 = .ok (.iconst 1, 1) := by decide +kernel
theorem dX4_markAs_52 : decode cX4_markAs 52 = .ok (.isub, 1) := by decide +kernel
theorem dX4_markAs_53 : decode cX4_markAs 53 = .ok (.invokestatic 40, 3) := by decide +kernel
theorem dX4_markAs_56 : decode cX4_markAs 56 = .ok (.istore 4, 2) := by decide +kernel
theorem dX4_markAs_58 : decode cX4_markAs 58 = .ok (.iload_n 1, 1) := by decide +kernel
theorem dX4_markAs_59 : decode cX4_markAs 59 = .ok (.tableswitch 96 1 5 #[33, 48, 62, 67, 72], 33) := by decide +kernel
theorem dX4_markAs_92 : decode cX4_markAs 92 = .ok (.iload 4, 2) := by decide +kernel
theorem dX4_markAs_94 : decode cX4_markAs 94 = .ok (.aload_n 0, 1) := by decide +kernel
theorem dX4_markAs_95 : decode cX4_markAs 95 = .ok (.getfield 7, 3) := by decide +kernel
theorem dX4_markAs_98 : decode cX4_markAs 98 = .ok (.getfield 44, 3) := by decide +kernel
theorem dX4_markAs_101 : decode cX4_markAs 101 = .ok (.iload_n 2, 1) := by decide +kernel
theorem dX4_markAs_102 : decode cX4_markAs 102 = .ok (.invokestatic 25, 3) := by decide +kernel
theorem dX4_markAs_105 : decode cX4_markAs 105 = .ok (.iadd, 1) := by decide +kernel
theorem dX4_markAs_106 : decode cX4_markAs 106 = .ok (.ireturn, 1) := by decide +kernel
theorem dX4_markAs_107 : decode cX4_markAs 107 = .ok (.iload 4, 2) := by decide +kernel
theorem dX4_markAs_109 : decode cX4_markAs 109 = .ok (.aload_n 0, 1) := by decide +kernel
theorem dX4_markAs_110 : decode cX4_markAs 110 = .ok (.getfield 13, 3) := by decide +kernel
theorem dX4_markAs_113 : decode cX4_markAs 113 = .ok (.bipush 16, 2) := by decide +kernel
theorem dX4_markAs_115 : decode cX4_markAs 115 = .ok (.iload_n 2, 1) := by decide +kernel
theorem dX4_markAs_116 : decode cX4_markAs 116 = .ok (.invokevirtual 49, 3) := by decide +kernel
theorem dX4_markAs_119 : decode cX4_markAs 119 = .ok (.isub, 1) := by decide +kernel
theorem dX4_markAs_120 : decode cX4_markAs 120 = .ok (.ireturn, 1) := by decide +kernel
theorem dX4_markAs_121 : decode cX4_markAs 121 = .ok (.iload 4, 2) := by decide +kernel
theorem dX4_markAs_123 : decode cX4_markAs 123 = .ok (.iconst 2, 1) := by decide +kernel
theorem dX4_markAs_124 : decode cX4_markAs 124 = .ok (.imul, 1) := by decide +kernel
theorem dX4_markAs_125 : decode cX4_markAs 125 = .ok (.ireturn, 1) := by decide +kernel
theorem dX4_markAs_126 : decode cX4_markAs 126 = .ok (.iload 4, 2) := by decide +kernel
theorem dX4_markAs_128 : decode cX4_markAs 128 = .ok (.iload_n 2, 1) := by decide +kernel
theorem dX4_markAs_129 : decode cX4_markAs 129 = .ok (.iadd, 1) := by decide +kernel
theorem dX4_markAs_130 : decode cX4_markAs 130 = .ok (.ireturn, 1) := by decide +kernel
theorem dX4_markAs_131 : decode cX4_markAs 131 = .ok (.iload 4, 2) := by decide +kernel
theorem dX4_markAs_133 : decode cX4_markAs 133 = .ok (.aload_n 0, 1) := by decide +kernel
theorem dX4_markAs_134 : decode cX4_markAs 134 = .ok (.getfield 13, 3) := by decide +kernel
theorem dX4_markAs_137 : decode cX4_markAs 137 = .ok (.bipush 38, 2) := by decide +kernel
theorem dX4_markAs_139 : decode cX4_markAs 139 = .ok (.aload_n 0, 1) := by decide +kernel
theorem dX4_markAs_140 : decode cX4_markAs 140 = .ok (.getfield 7, 3) := by decide +kernel
theorem dX4_markAs_143 : decode cX4_markAs 143 = .ok (.getfield 53, 3) := by decide +kernel
theorem dX4_markAs_146 : decode cX4_markAs 146 = .ok (.iload_n 2, 1) := by decide +kernel
theorem dX4_markAs_147 : decode cX4_markAs 147 = .ok (.invokestatic 25, 3) := by decide +kernel
theorem dX4_markAs_150 : decode cX4_markAs 150 = .ok (.invokevirtual 49, 3) := by decide +kernel
theorem dX4_markAs_153 : decode cX4_markAs 153 = .ok (.iadd, 1) := by decide +kernel
theorem dX4_markAs_154 : decode cX4_markAs 154 = .ok (.ireturn, 1) := by decide +kernel
theorem dX4_markAs_155 : decode cX4_markAs 155 = .ok (.iload 4, 2) := by decide +kernel
theorem dX4_markAs_157 : decode cX4_markAs 157 = .ok (.ireturn, 1) := by decide +kernel
theorem dX5_init_0 : decode cX5_init 0 = .ok (.aload_n 0, 1) := by decide +kernel
theorem dX5_init_1 : decode cX5_init 1 = .ok (.invokespecial 3, 3) := by decide +kernel
theorem dX5_init_4 : decode cX5_init 4 = .ok (.aload_n 0, 1) := by decide +kernel
theorem dX5_init_5 : decode cX5_init 5 = .ok (.bipush 45, 2) := by decide +kernel
theorem dX5_init_7 : decode cX5_init 7 = .ok (.newarray .int, 2) := by decide +kernel
theorem dX5_init_9 : decode cX5_init 9 = .ok (.putfield 11, 3) := by decide +kernel
theorem dX5_init_12 : decode cX5_init 12 = .ok (.return_, 1) := by decide +kernel
set_option maxRecDepth 20000 in
theorem ggX5_empties_X10_fill : GoodIn wsX5_empties wsX10_fill := goodIn_r _ [4] (by decide +kernel) (by decide +kernel)
set_option maxRecDepth 20000 in
theorem gX5_empties_X10_fill_n15 : GoodIn wsX5_empties (wsX10_fill) := ggX5_empties_X10_fill
theorem dX5_empties_0 : decode cX5_empties 0 = .ok (.aload_n 0, 1) := by decide +kernel
theorem dX5_empties_1 : decode cX5_empties 1 = .ok (.getfield 11, 3) := by decide +kernel
theorem dX5_empties_4 : decode cX5_empties 4 = .ok (.iconst 0, 1) := by decide +kernel
theorem dX5_empties_5 : decode cX5_empties 5 = .ok (.invokestatic 15, 3) := by decide +kernel
theorem dX5_empties_8 : decode cX5_empties 8 = .ok (.return_, 1) := by decide +kernel
set_option maxRecDepth 20000 in
theorem ggX5_becomes_X10_copy : GoodIn wsX5_becomes wsX10_copy := goodIn_r _ [4, 5, 6, 7, 8] (by decide +kernel) (by decide +kernel)
set_option maxRecDepth 20000 in
theorem gX5_becomes_X10_copy_n19 : GoodIn wsX5_becomes (wsX10_copy) := ggX5_becomes_X10_copy
theorem dX5_becomes_0 : decode cX5_becomes 0 = .ok (.aload_n 1, 1) := by decide +kernel
theorem dX5_becomes_1 : decode cX5_becomes 1 = .ok (.getfield 11, 3) := by decide +kernel
theorem dX5_becomes_4 : decode cX5_becomes 4 = .ok (.iconst 0, 1) := by decide +kernel
theorem dX5_becomes_5 : decode cX5_becomes 5 = .ok (.aload_n 0, 1) := by decide +kernel
theorem dX5_becomes_6 : decode cX5_becomes 6 = .ok (.getfield 11, 3) := by decide +kernel
theorem dX5_becomes_9 : decode cX5_becomes 9 = .ok (.iconst 0, 1) := by decide +kernel
theorem dX5_becomes_10 : decode cX5_becomes 10 = .ok (.bipush 45, 2) := by decide +kernel
theorem dX5_becomes_12 : decode cX5_becomes 12 = .ok (.invokestatic 19, 3) := by decide +kernel
theorem dX5_becomes_15 : decode cX5_becomes 15 = .ok (.return_, 1) := by decide +kernel
set_option maxRecDepth 20000 in
theorem ggX5_get_X10_at : GoodIn wsX5_get wsX10_at := goodIn_r _ [4] (by decide +kernel) (by decide +kernel)
set_option maxRecDepth 20000 in
theorem gX5_get_X10_at_n23 : GoodIn wsX5_get (wsX10_at) := ggX5_get_X10_at
theorem dX5_get_0 : decode cX5_get 0 = .ok (.aload_n 0, 1) := by decide +kernel
theorem dX5_get_1 : decode cX5_get 1 = .ok (.getfield 11, 3) := by decide +kernel
theorem dX5_get_4 : decode cX5_get 4 = .ok (.iload_n 1, 1) := by decide +kernel
theorem dX5_get_5 : decode cX5_get 5 = .ok (.iload_n 2, 1) := by decide +kernel
theorem dX5_get_6 : decode cX5_get 6 = .ok (.iadd, 1) := by decide +kernel
theorem dX5_get_7 : decode cX5_get 7 = .ok (.invokestatic 23, 3) := by decide +kernel
theorem dX5_get_10 : decode cX5_get 10 = .ok (.ireturn, 1) := by decide +kernel
set_option maxRecDepth 20000 in
theorem ggX5_set_X10_put : GoodIn wsX5_set wsX10_put := goodIn_r _ [4] (by decide +kernel) (by decide +kernel)
set_option maxRecDepth 20000 in
theorem gX5_set_X10_put_n27 : GoodIn wsX5_set (wsX10_put) := ggX5_set_X10_put
theorem dX5_set_0 : decode cX5_set 0 = .ok (.aload_n 0, 1) := by decide +kernel
theorem dX5_set_1 : decode cX5_set 1 = .ok (.getfield 11, 3) := by decide +kernel
theorem dX5_set_4 : decode cX5_set 4 = .ok (.iload_n 1, 1) := by decide +kernel
theorem dX5_set_5 : decode cX5_set 5 = .ok (.iload_n 2, 1) := by decide +kernel
theorem dX5_set_6 : decode cX5_set 6 = .ok (.iadd, 1) := by decide +kernel
theorem dX5_set_7 : decode cX5_set 7 = .ok (.iload_n 3, 1) := by decide +kernel
theorem dX5_set_8 : decode cX5_set 8 = .ok (.invokestatic 27, 3) := by decide +kernel
theorem dX5_set_11 : decode cX5_set 11 = .ok (.return_, 1) := by decide +kernel
set_option maxRecDepth 20000 in
theorem ggX5_lies_X5_get : GoodIn wsX5_lies wsX5_get := goodIn_r _ [5, 6, 7, 8, 9, 10] (by decide +kernel) (by decide +kernel)
set_option maxRecDepth 20000 in
theorem gX5_lies_X5_get : GoodIn wsX5_lies (wsV RX5 31 RX5 yX5_get wsX5_get) := goodIn_app (goodIn_of _ (by decide +kernel)) ggX5_lies_X5_get
theorem dX5_lies_0 : decode cX5_lies 0 = .ok (.aload_n 0, 1) := by decide +kernel
theorem dX5_lies_1 : decode cX5_lies 1 = .ok (.bipush 24, 2) := by decide +kernel
theorem dX5_lies_3 : decode cX5_lies 3 = .ok (.iload_n 1, 1) := by decide +kernel
theorem dX5_lies_4 : decode cX5_lies 4 = .ok (.invokevirtual 31, 3) := by decide +kernel
theorem dX5_lies_7 : decode cX5_lies 7 = .ok (.ifCond .ne 7, 3) := by decide +kernel
theorem dX5_lies_10 : decode cX5_lies 10 = .ok (.iconst 1, 1) := by decide +kernel
theorem dX5_lies_11 : decode cX5_lies 11 = .ok (.goto 4, 3) := by decide +kernel
theorem dX5_lies_14 : decode cX5_lies 14 = .ok (.iconst 0, 1) := by decide +kernel
theorem dX5_lies_15 : decode cX5_lies 15 = .ok (.ireturn, 1) := by decide +kernel
set_option maxRecDepth 20000 in
theorem ggX5_goneRafts_X5_get : GoodIn wsX5_goneRafts wsX5_get := goodIn_r _ [5, 6, 7, 8, 9, 10] (by decide +kernel) (by decide +kernel)
set_option maxRecDepth 20000 in
theorem gX5_goneRafts_X5_get : GoodIn wsX5_goneRafts (wsV RX5 31 RX5 yX5_get wsX5_get) := goodIn_app (goodIn_of _ (by decide +kernel)) ggX5_goneRafts_X5_get
theorem dX5_goneRafts_0 : decode cX5_goneRafts 0 = .ok (.aload_n 0, 1) := by decide +kernel
theorem dX5_goneRafts_1 : decode cX5_goneRafts 1 = .ok (.bipush 44, 2) := by decide +kernel
theorem dX5_goneRafts_3 : decode cX5_goneRafts 3 = .ok (.iconst 0, 1) := by decide +kernel
theorem dX5_goneRafts_4 : decode cX5_goneRafts 4 = .ok (.invokevirtual 31, 3) := by decide +kernel
theorem dX5_goneRafts_7 : decode cX5_goneRafts 7 = .ok (.ireturn, 1) := by decide +kernel
set_option maxRecDepth 20000 in
theorem ggX5_isGone_X5_goneRafts : GoodIn wsX5_isGone wsX5_goneRafts := goodIn_r _ [5, 6, 7, 8, 4, 9, 10, 11, 12, 13, 19] (by decide +kernel) (by decide +kernel)
set_option maxRecDepth 20000 in
theorem gX5_isGone_X5_goneRafts : GoodIn wsX5_isGone (wsV RX5 35 RX5 yX5_goneRafts wsX5_goneRafts) := goodIn_app (goodIn_of _ (by decide +kernel)) ggX5_isGone_X5_goneRafts
set_option maxRecDepth 20000 in
theorem ggX5_isGone_X10_has : GoodIn wsX5_isGone wsX10_has := goodIn_r _ [15, 16, 17, 12, 18] (by decide +kernel) (by decide +kernel)
set_option maxRecDepth 20000 in
theorem gX5_isGone_X10_has_n39 : GoodIn wsX5_isGone (wsX10_has) := ggX5_isGone_X10_has
theorem dX5_isGone_0 : decode cX5_isGone 0 = .ok (.aload_n 0, 1) := by decide +kernel
theorem dX5_isGone_1 : decode cX5_isGone 1 = .ok (.invokevirtual 35, 3) := by decide +kernel
theorem dX5_isGone_4 : decode cX5_isGone 4 = .ok (.iload_n 1, 1) := by decide +kernel
theorem dX5_isGone_5 : decode cX5_isGone 5 = .ok (.invokestatic 39, 3) := by decide +kernel
theorem dX5_isGone_8 : decode cX5_isGone 8 = .ok (.ireturn, 1) := by decide +kernel
theorem dX6_init_0 : decode cX6_init 0 = .ok (.aload_n 0, 1) := by decide +kernel
theorem dX6_init_1 : decode cX6_init 1 = .ok (.invokespecial 1, 3) := by decide +kernel
theorem dX6_init_4 : decode cX6_init 4 = .ok (.aload_n 0, 1) := by decide +kernel
theorem dX6_init_5 : decode cX6_init 5 = .ok (.sipush 450, 3) := by decide +kernel
theorem dX6_init_8 : decode cX6_init 8 = .ok (.newarray .int, 2) := by decide +kernel
theorem dX6_init_10 : decode cX6_init 10 = .ok (.putfield 11, 3) := by decide +kernel
theorem dX6_init_13 : decode cX6_init 13 = .ok (.return_, 1) := by decide +kernel
set_option maxRecDepth 20000 in
theorem ggX6_remembers_X10_copy : GoodIn wsX6_remembers wsX10_copy := goodIn_r _ [5, 6, 7, 8, 9] (by decide +kernel) (by decide +kernel)
set_option maxRecDepth 20000 in
theorem gX6_remembers_X10_copy_n19 : GoodIn wsX6_remembers (wsX10_copy) := ggX6_remembers_X10_copy
theorem dX6_remembers_0 : decode cX6_remembers 0 = .ok (.aload_n 0, 1) := by decide +kernel
theorem dX6_remembers_1 : decode cX6_remembers 1 = .ok (.getfield 15, 3) := by decide +kernel
theorem dX6_remembers_4 : decode cX6_remembers 4 = .ok (.bipush 10, 2) := by decide +kernel
theorem dX6_remembers_6 : decode cX6_remembers 6 = .ok (.if_icmp .lt 30, 3) := by decide +kernel
theorem dX6_remembers_9 : decode cX6_remembers 9 = .ok (.aload_n 0, 1) := by decide +kernel
theorem dX6_remembers_10 : decode cX6_remembers 10 = .ok (.bipush 9, 2) := by decide +kernel
theorem dX6_remembers_12 : decode cX6_remembers 12 = .ok (.putfield 15, 3) := by decide +kernel
theorem dX6_remembers_15 : decode cX6_remembers 15 = .ok (.aload_n 0, 1) := by decide +kernel
theorem dX6_remembers_16 : decode cX6_remembers 16 = .ok (.getfield 11, 3) := by decide +kernel
theorem dX6_remembers_19 : decode cX6_remembers 19 = .ok (.bipush 45, 2) := by decide +kernel
theorem dX6_remembers_21 : decode cX6_remembers 21 = .ok (.aload_n 0, 1) := by decide +kernel
theorem dX6_remembers_22 : decode cX6_remembers 22 = .ok (.getfield 11, 3) := by decide +kernel
theorem dX6_remembers_25 : decode cX6_remembers 25 = .ok (.iconst 0, 1) := by decide +kernel
theorem dX6_remembers_26 : decode cX6_remembers 26 = .ok (.aload_n 0, 1) := by decide +kernel
theorem dX6_remembers_27 : decode cX6_remembers 27 = .ok (.getfield 15, 3) := by decide +kernel
theorem dX6_remembers_30 : decode cX6_remembers 30 = .ok (.bipush 45, 2) := by decide +kernel
theorem dX6_remembers_32 : decode cX6_remembers 32 = .ok (.imul, 1) := by decide +kernel
theorem dX6_remembers_33 : decode cX6_remembers 33 = .ok (.invokestatic 19, 3) := by decide +kernel
theorem dX6_remembers_36 : decode cX6_remembers 36 = .ok (.aload_n 1, 1) := by decide +kernel
theorem dX6_remembers_37 : decode cX6_remembers 37 = .ok (.getfield 25, 3) := by decide +kernel
theorem dX6_remembers_40 : decode cX6_remembers 40 = .ok (.iconst 0, 1) := by decide +kernel
theorem dX6_remembers_41 : decode cX6_remembers 41 = .ok (.aload_n 0, 1) := by decide +kernel
theorem dX6_remembers_42 : decode cX6_remembers 42 = .ok (.getfield 11, 3) := by decide +kernel
theorem dX6_remembers_45 : decode cX6_remembers 45 = .ok (.aload_n 0, 1) := by decide +kernel
theorem dX6_remembers_46 : decode cX6_remembers 46 = .ok (.getfield 15, 3) := by decide +kernel
theorem dX6_remembers_49 : decode cX6_remembers 49 = .ok (.bipush 45, 2) := by decide +kernel
theorem dX6_remembers_51 : decode cX6_remembers 51 = .ok (.imul, 1) := by decide +kernel
theorem dX6_remembers_52 : decode cX6_remembers 52 = .ok (.bipush 45, 2) := by decide +kernel
theorem dX6_remembers_54 : decode cX6_remembers 54 = .ok (.invokestatic 19, 3) := by decide +kernel
theorem dX6_remembers_57 : decode cX6_remembers 57 = .ok (.aload_n 0, 1) := by decide +kernel
theorem dX6_remembers_58 : decode cX6_remembers 58 = .ok (.dup, 1) := by decide +kernel
theorem dX6_remembers_59 : decode cX6_remembers 59 = .ok (.getfield 15, 3) := by decide +kernel
theorem dX6_remembers_62 : decode cX6_remembers 62 = .ok (.iconst 1, 1) := by decide +kernel
theorem dX6_remembers_63 : decode cX6_remembers 63 = .ok (.iadd, 1) := by decide +kernel
theorem dX6_remembers_64 : decode cX6_remembers 64 = .ok (.putfield 15, 3) := by decide +kernel
theorem dX6_remembers_67 : decode cX6_remembers 67 = .ok (.return_, 1) := by decide +kernel
set_option maxRecDepth 20000 in
theorem ggX6_bringsBack_X10_copy : GoodIn wsX6_bringsBack wsX10_copy := goodIn_r _ [5, 6, 7, 8, 9] (by decide +kernel) (by decide +kernel)
set_option maxRecDepth 20000 in
theorem gX6_bringsBack_X10_copy_n19 : GoodIn wsX6_bringsBack (wsX10_copy) := ggX6_bringsBack_X10_copy
theorem dX6_bringsBack_0 : decode cX6_bringsBack 0 = .ok (.aload_n 0, 1) := by decide +kernel
theorem dX6_bringsBack_1 : decode cX6_bringsBack 1 = .ok (.getfield 15, 3) := by decide +kernel
theorem dX6_bringsBack_4 : decode cX6_bringsBack 4 = .ok (.iconst 1, 1) := by decide +kernel
theorem dX6_bringsBack_5 : decode cX6_bringsBack 5 = .ok (.if_icmp .ge 5, 3) := by decide +kernel
theorem dX6_bringsBack_8 : decode cX6_bringsBack 8 = .ok (.iconst 0, 1) := by decide +kernel
theorem dX6_bringsBack_9 : decode cX6_bringsBack 9 = .ok (.ireturn, 1) := by decide +kernel
theorem dX6_bringsBack_10 : decode cX6_bringsBack 10 = .ok (.aload_n 0, 1) := by decide +kernel
theorem dX6_bringsBack_11 : decode cX6_bringsBack 11 = .ok (.dup, 1) := by decide +kernel
theorem dX6_bringsBack_12 : decode cX6_bringsBack 12 = .ok (.getfield 15, 3) := by decide +kernel
theorem dX6_bringsBack_15 : decode cX6_bringsBack 15 = .ok (.iconst 1, 1) := by decide +kernel
theorem dX6_bringsBack_16 : decode cX6_bringsBack 16 = .ok (.isub, 1) := by decide +kernel
theorem dX6_bringsBack_17 : decode cX6_bringsBack 17 = .ok (.putfield 15, 3) := by decide +kernel
theorem dX6_bringsBack_20 : decode cX6_bringsBack 20 = .ok (.aload_n 0, 1) := by decide +kernel
theorem dX6_bringsBack_21 : decode cX6_bringsBack 21 = .ok (.getfield 11, 3) := by decide +kernel
theorem dX6_bringsBack_24 : decode cX6_bringsBack 24 = .ok (.aload_n 0, 1) := by decide +kernel
theorem dX6_bringsBack_25 : decode cX6_bringsBack 25 = .ok (.getfield 15, 3) := by decide +kernel
theorem dX6_bringsBack_28 : decode cX6_bringsBack 28 = .ok (.bipush 45, 2) := by decide +kernel
theorem dX6_bringsBack_30 : decode cX6_bringsBack 30 = .ok (.imul, 1) := by decide +kernel
theorem dX6_bringsBack_31 : decode cX6_bringsBack 31 = .ok (.aload_n 1, 1) := by decide +kernel
theorem dX6_bringsBack_32 : decode cX6_bringsBack 32 = .ok (.getfield 25, 3) := by decide +kernel
theorem dX6_bringsBack_35 : decode cX6_bringsBack 35 = .ok (.iconst 0, 1) := by decide +kernel
theorem dX6_bringsBack_36 : decode cX6_bringsBack 36 = .ok (.bipush 45, 2) := by decide +kernel
theorem dX6_bringsBack_38 : decode cX6_bringsBack 38 = .ok (.invokestatic 19, 3) := by decide +kernel
theorem dX6_bringsBack_41 : decode cX6_bringsBack 41 = .ok (.iconst 1, 1) := by decide +kernel
theorem dX6_bringsBack_42 : decode cX6_bringsBack 42 = .ok (.ireturn, 1) := by decide +kernel
set_option maxRecDepth 20000 in
theorem ggX6_becomes_X10_copy : GoodIn wsX6_becomes wsX10_copy := goodIn_r _ [5, 6, 7, 8, 9] (by decide +kernel) (by decide +kernel)
set_option maxRecDepth 20000 in
theorem gX6_becomes_X10_copy_n19 : GoodIn wsX6_becomes (wsX10_copy) := ggX6_becomes_X10_copy
theorem dX6_becomes_0 : decode cX6_becomes 0 = .ok (.aload_n 1, 1) := by decide +kernel
theorem dX6_becomes_1 : decode cX6_becomes 1 = .ok (.getfield 11, 3) := by decide +kernel
theorem dX6_becomes_4 : decode cX6_becomes 4 = .ok (.iconst 0, 1) := by decide +kernel
theorem dX6_becomes_5 : decode cX6_becomes 5 = .ok (.aload_n 0, 1) := by decide +kernel
theorem dX6_becomes_6 : decode cX6_becomes 6 = .ok (.getfield 11, 3) := by decide +kernel
theorem dX6_becomes_9 : decode cX6_becomes 9 = .ok (.iconst 0, 1) := by decide +kernel
theorem dX6_becomes_10 : decode cX6_becomes 10 = .ok (.sipush 450, 3) := by decide +kernel
theorem dX6_becomes_13 : decode cX6_becomes 13 = .ok (.invokestatic 19, 3) := by decide +kernel
theorem dX6_becomes_16 : decode cX6_becomes 16 = .ok (.aload_n 0, 1) := by decide +kernel
theorem dX6_becomes_17 : decode cX6_becomes 17 = .ok (.aload_n 1, 1) := by decide +kernel
theorem dX6_becomes_18 : decode cX6_becomes 18 = .ok (.getfield 15, 3) := by decide +kernel
theorem dX6_becomes_21 : decode cX6_becomes 21 = .ok (.putfield 15, 3) := by decide +kernel
theorem dX6_becomes_24 : decode cX6_becomes 24 = .ok (.return_, 1) := by decide +kernel
theorem dX7_init_0 : decode cX7_init 0 = .ok (.aload_n 0, 1) := by decide +kernel
theorem dX7_init_1 : decode cX7_init 1 = .ok (.invokespecial 3, 3) := by decide +kernel
theorem dX7_init_4 : decode cX7_init 4 = .ok (.aload_n 0, 1) := by decide +kernel
theorem dX7_init_5 : decode cX7_init 5 = .ok (.sipush 200, 3) := by decide +kernel
theorem dX7_init_8 : decode cX7_init 8 = .ok (.newarray .int, 2) := by decide +kernel
theorem dX7_init_10 : decode cX7_init 10 = .ok (.putfield 11, 3) := by decide +kernel
theorem dX7_init_13 : decode cX7_init 13 = .ok (.return_, 1) := by decide +kernel
set_option maxRecDepth 20000 in
theorem ggX7_takes_X10_put : GoodIn wsX7_takes wsX10_put := goodIn_r _ [5] (by decide +kernel) (by decide +kernel)
set_option maxRecDepth 20000 in
theorem gX7_takes_X10_put_n19 : GoodIn wsX7_takes (wsX10_put) := ggX7_takes_X10_put
theorem dX7_takes_0 : decode cX7_takes 0 = .ok (.aload_n 0, 1) := by decide +kernel
theorem dX7_takes_1 : decode cX7_takes 1 = .ok (.getfield 15, 3) := by decide +kernel
theorem dX7_takes_4 : decode cX7_takes 4 = .ok (.sipush 200, 3) := by decide +kernel
theorem dX7_takes_7 : decode cX7_takes 7 = .ok (.if_icmp .lt 5, 3) := by decide +kernel
theorem dX7_takes_10 : decode cX7_takes 10 = .ok (.iconst 0, 1) := by decide +kernel
theorem dX7_takes_11 : decode cX7_takes 11 = .ok (.ireturn, 1) := by decide +kernel
theorem dX7_takes_12 : decode cX7_takes 12 = .ok (.aload_n 0, 1) := by decide +kernel
theorem dX7_takes_13 : decode cX7_takes 13 = .ok (.getfield 11, 3) := by decide +kernel
theorem dX7_takes_16 : decode cX7_takes 16 = .ok (.aload_n 0, 1) := by decide +kernel
theorem dX7_takes_17 : decode cX7_takes 17 = .ok (.getfield 15, 3) := by decide +kernel
theorem dX7_takes_20 : decode cX7_takes 20 = .ok (.iload_n 1, 1) := by decide +kernel
theorem dX7_takes_21 : decode cX7_takes 21 = .ok (.invokestatic 19, 3) := by decide +kernel
theorem dX7_takes_24 : decode cX7_takes 24 = .ok (.aload_n 0, 1) := by decide +kernel
theorem dX7_takes_25 : decode cX7_takes 25 = .ok (.dup, 1) := by decide +kernel
theorem dX7_takes_26 : decode cX7_takes 26 = .ok (.getfield 15, 3) := by decide +kernel
theorem dX7_takes_29 : decode cX7_takes 29 = .ok (.iconst 1, 1) := by decide +kernel
theorem dX7_takes_30 : decode cX7_takes 30 = .ok (.iadd, 1) := by decide +kernel
theorem dX7_takes_31 : decode cX7_takes 31 = .ok (.putfield 15, 3) := by decide +kernel
theorem dX7_takes_34 : decode cX7_takes 34 = .ok (.iconst 1, 1) := by decide +kernel
theorem dX7_takes_35 : decode cX7_takes 35 = .ok (.ireturn, 1) := by decide +kernel
set_option maxRecDepth 20000 in
theorem ggX7_readInto_X9_empties : GoodIn wsX7_readInto wsX9_empties := goodIn_r _ [9, 10, 11, 12, 13, 14, 15, 16, 17, 18, 19, 20, 21, 22, 23, 24, 97, 98, 99, 100, 101, 102, 103, 104, 105, 106, 107] (by decide +kernel) (by decide +kernel)
set_option maxRecDepth 20000 in
theorem gX7_readInto_X9_empties_n23 : GoodIn wsX7_readInto (wsX9_empties) := ggX7_readInto_X9_empties
set_option maxRecDepth 20000 in
theorem ggX7_readInto_X7_nextToken : GoodIn wsX7_readInto wsX7_nextToken := goodIn_r _ [29, 1, 5, 30, 4, 31, 3, 32, 33, 34, 28, 35, 36, 18, 37, 38, 39, 40, 41, 42, 43, 90, 91, 92, 93, 94, 95, 96] (by decide +kernel) (by decide +kernel)
set_option maxRecDepth 20000 in
theorem gX7_readInto_X7_nextToken : GoodIn wsX7_readInto (wsV RX7 34 RX7 yX7_nextToken wsX7_nextToken) := goodIn_app (goodIn_of _ (by decide +kernel)) ggX7_readInto_X7_nextToken
set_option maxRecDepth 20000 in
theorem ggX7_readInto_X7_readCell : GoodIn wsX7_readInto wsX7_readCell := goodIn_r _ [47, 48, 49, 50, 28, 51, 2, 3, 4, 5, 25, 26, 27, 29, 1, 30, 31, 32, 33, 34, 35, 36, 18, 37, 38, 39, 40, 41, 42, 43, 52, 53, 54, 55, 56, 57, 97, 98, 99, 100, 101, 102, 103, 104, 105, 106, 90, 91, 92, 93, 94, 95, 96] (by decide +kernel) (by decide +kernel)
set_option maxRecDepth 20000 in
theorem gX7_readInto_X7_readCell : GoodIn wsX7_readInto (wsV RX7 43 RX7 yX7_readCell wsX7_readCell) := goodIn_app (goodIn_of _ (by decide +kernel)) ggX7_readInto_X7_readCell
set_option maxRecDepth 20000 in
theorem ggX7_readInto_X7_readRaft : GoodIn wsX7_readInto wsX7_readRaft := goodIn_r _ [61, 5, 2, 48, 49, 50, 28, 51, 3, 4, 25, 26, 27, 29, 1, 30, 31, 32, 33, 34, 35, 36, 18, 37, 38, 39, 40, 41, 42, 43, 52, 53, 54, 55, 62, 7, 63, 64, 13, 14, 65, 21, 66, 67, 24, 56, 57, 97, 98, 99, 100, 101, 102, 103, 104, 105, 106, 90, 91, 92, 93, 94, 95, 96, 107] (by decide +kernel) (by decide +kernel)
set_option maxRecDepth 20000 in
theorem gX7_readInto_X7_readRaft : GoodIn wsX7_readInto (wsV RX7 47 RX7 yX7_readRaft wsX7_readRaft) := goodIn_app (goodIn_of _ (by decide +kernel)) ggX7_readInto_X7_readRaft
set_option maxRecDepth 20000 in
theorem ggX7_readInto_X7_readAnchor : GoodIn wsX7_readInto wsX7_readAnchor := goodIn_r _ [71, 5, 2, 48, 49, 50, 28, 51, 3, 4, 25, 26, 27, 29, 1, 30, 31, 32, 33, 34, 35, 36, 18, 37, 38, 39, 40, 41, 42, 43, 52, 53, 54, 55, 72, 7, 73, 74, 75, 15, 76, 77, 13, 56, 57, 65, 21, 66, 67, 24, 97, 98, 99, 100, 101, 102, 103, 104, 105, 106, 90, 91, 92, 93, 94, 95, 96, 107] (by decide +kernel) (by decide +kernel)
set_option maxRecDepth 20000 in
theorem gX7_readInto_X7_readAnchor : GoodIn wsX7_readInto (wsV RX7 50 RX7 yX7_readAnchor wsX7_readAnchor) := goodIn_app (goodIn_of _ (by decide +kernel)) ggX7_readInto_X7_readAnchor
set_option maxRecDepth 20000 in
theorem ggX7_readInto_X7_readRope : GoodIn wsX7_readInto wsX7_readRope := goodIn_r _ [81, 48, 49, 50, 28, 51, 2, 3, 4, 5, 25, 26, 27, 29, 1, 30, 31, 32, 33, 34, 35, 36, 18, 37, 38, 39, 40, 41, 42, 43, 52, 53, 54, 55, 82, 7, 83, 84, 12, 16, 85, 86, 87, 88, 89, 56, 57, 97, 98, 99, 100, 101, 102, 103, 104, 105, 106, 90, 91, 92, 93, 94, 95, 96] (by decide +kernel) (by decide +kernel)
set_option maxRecDepth 20000 in
theorem gX7_readInto_X7_readRope : GoodIn wsX7_readInto (wsV RX7 53 RX7 yX7_readRope wsX7_readRope) := goodIn_app (goodIn_of _ (by decide +kernel)) ggX7_readInto_X7_readRope
theorem dX7_readInto_0 : decode cX7_readInto 0 = .ok (.aload_n 1, 1) := by decide +kernel
theorem dX7_readInto_1 : decode cX7_readInto 1 = .ok (.invokevirtual 23, 3) := by decide +kernel
theorem dX7_readInto_4 : decode cX7_readInto 4 = .ok (.aload_n 0, 1) := by decide +kernel
theorem dX7_readInto_5 : decode cX7_readInto 5 = .ok (.iconst 0, 1) := by decide +kernel
theorem dX7_readInto_6 : decode cX7_readInto 6 = .ok (.putfield 28, 3) := by decide +kernel
theorem dX7_readInto_9 : decode cX7_readInto 9 = .ok (.aload_n 0, 1) := by decide +kernel
theorem dX7_readInto_10 : decode cX7_readInto 10 = .ok (.iconst (-1), 1) := by decide +kernel
theorem dX7_readInto_11 : decode cX7_readInto 11 = .ok (.putfield 31, 3) := by decide +kernel
theorem dX7_readInto_14 : decode cX7_readInto 14 = .ok (.iconst 0, 1) := by decide +kernel
theorem dX7_readInto_15 : decode cX7_readInto 15 = .ok (.istore_n 2, 1) := by decide +kernel
theorem dX7_readInto_16 : decode cX7_readInto 16 = .ok (.iconst 0, 1) := by decide +kernel
theorem dX7_readInto_17 : decode cX7_readInto 17 = .ok (.istore_n 3, 1) := by decide +kernel
theorem dX7_readInto_18 : decode cX7_readInto 18 = .ok (.iload_n 3, 1) := by decide +kernel
theorem dX7_readInto_19 : decode cX7_readInto 19 = .ok (.sipush 200, 3) := by decide +kernel
theorem dX7_readInto_22 : decode cX7_readInto 22 = .ok (.if_icmp .ge 143, 3) := by decide +kernel
theorem dX7_readInto_25 : decode cX7_readInto 25 = .ok (.aload_n 0, 1) := by decide +kernel
theorem dX7_readInto_26 : decode cX7_readInto 26 = .ok (.invokevirtual 34, 3) := by decide +kernel
theorem dX7_readInto_29 : decode cX7_readInto 29 = .ok (.aload_n 0, 1) := by decide +kernel
theorem dX7_readInto_30 : decode cX7_readInto 30 = .ok (.getfield 37, 3) := by decide +kernel
theorem dX7_readInto_33 : decode cX7_readInto 33 = .ok (.ifCond .ne 5, 3) := by decide +kernel
theorem dX7_readInto_36 : decode cX7_readInto 36 = .ok (.iload_n 2, 1) := by decide +kernel
theorem dX7_readInto_37 : decode cX7_readInto 37 = .ok (.ireturn, 1) := by decide +kernel
theorem dX7_readInto_38 : decode cX7_readInto 38 = .ok (.aload_n 0, 1) := by decide +kernel
theorem dX7_readInto_39 : decode cX7_readInto 39 = .ok (.getfield 37, 3) := by decide +kernel
theorem dX7_readInto_42 : decode cX7_readInto 42 = .ok (.iconst 1, 1) := by decide +kernel
theorem dX7_readInto_43 : decode cX7_readInto 43 = .ok (.if_icmp .ne 10, 3) := by decide +kernel
theorem dX7_readInto_46 : decode cX7_readInto 46 = .ok (.aload_n 0, 1) := by decide +kernel
theorem dX7_readInto_47 : decode cX7_readInto 47 = .ok (.getfield 40, 3) := by decide +kernel
theorem dX7_readInto_50 : decode cX7_readInto 50 = .ok (.goto 4, 3) := by decide +kernel
theorem dX7_readInto_53 : decode cX7_readInto 53 = .ok (.iconst 0, 1) := by decide +kernel
theorem dX7_readInto_54 : decode cX7_readInto 54 = .ok (.istore 4, 2) := by decide +kernel
theorem dX7_readInto_56 : decode cX7_readInto 56 = .ok (.iload 4, 2) := by decide +kernel
theorem dX7_readInto_58 : decode cX7_readInto 58 = .ok (.lookupswitch 74 #[(97, 58), (99, 42), (114, 50), (116, 66)], 42) := by decide +kernel
theorem dX7_readInto_100 : decode cX7_readInto 100 = .ok (.aload_n 0, 1) := by decide +kernel
theorem dX7_readInto_101 : decode cX7_readInto 101 = .ok (.aload_n 1, 1) := by decide +kernel
theorem dX7_readInto_102 : decode cX7_readInto 102 = .ok (.invokevirtual 43, 3) := by decide +kernel
theorem dX7_readInto_105 : decode cX7_readInto 105 = .ok (.goto 35, 3) := by decide +kernel
theorem dX7_readInto_108 : decode cX7_readInto 108 = .ok (.aload_n 0, 1) := by decide +kernel
theorem dX7_readInto_109 : decode cX7_readInto 109 = .ok (.aload_n 1, 1) := by decide +kernel
theorem dX7_readInto_110 : decode cX7_readInto 110 = .ok (.invokevirtual 47, 3) := by decide +kernel
theorem dX7_readInto_113 : decode cX7_readInto 113 = .ok (.goto 27, 3) := by decide +kernel
theorem dX7_readInto_116 : decode cX7_readInto 116 = .ok (.aload_n 0, 1) := by decide +kernel
theorem dX7_readInto_117 : decode cX7_readInto 117 = .ok (.aload_n 1, 1) := by decide +kernel
theorem dX7_readInto_118 : decode cX7_readInto 118 = .ok (.invokevirtual 50, 3) := by decide +kernel
theorem dX7_readInto_121 : decode cX7_readInto 121 = .ok (.goto 19, 3) := by decide +kernel
theorem dX7_readInto_124 : decode cX7_readInto 124 = .ok (.aload_n 0, 1) := by decide +kernel
theorem dX7_readInto_125 : decode cX7_readInto 125 = .ok (.aload_n 1, 1) := by decide +kernel
theorem dX7_readInto_126 : decode cX7_readInto 126 = .ok (.invokevirtual 53, 3) := by decide +kernel
theorem dX7_readInto_129 : decode cX7_readInto 129 = .ok (.goto 11, 3) := by decide +kernel
theorem dX7_readInto_132 : decode cX7_readInto 132 = .ok (.aload_n 0, 1) := by decide +kernel
theorem dX7_readInto_133 : decode cX7_readInto 133 = .ok (.aload_n 0, 1) := by decide +kernel
theorem dX7_readInto_134 : decode cX7_readInto 134 = .ok (.getfield 56, 3) := by decide +kernel
theorem dX7_readInto_137 : decode cX7_readInto 137 = .ok (.putfield 31, 3) := by decide +kernel
theorem dX7_readInto_140 : decode cX7_readInto 140 = .ok (.aload_n 0, 1) := by decide +kernel
theorem dX7_readInto_141 : decode cX7_readInto 141 = .ok (.getfield 31, 3) := by decide +kernel
theorem dX7_readInto_144 : decode cX7_readInto 144 = .ok (.iconst (-1), 1) := by decide +kernel
theorem dX7_readInto_145 : decode cX7_readInto 145 = .ok (.if_icmp .eq 11, 3) := by decide +kernel
theorem dX7_readInto_148 : decode cX7_readInto 148 = .ok (.bipush (-10), 2) := by decide +kernel
theorem dX7_readInto_150 : decode cX7_readInto 150 = .ok (.aload_n 0, 1) := by decide +kernel
theorem dX7_readInto_151 : decode cX7_readInto 151 = .ok (.getfield 31, 3) := by decide +kernel
theorem dX7_readInto_154 : decode cX7_readInto 154 = .ok (.isub, 1) := by decide +kernel
theorem dX7_readInto_155 : decode cX7_readInto 155 = .ok (.ireturn, 1) := by decide +kernel
theorem dX7_readInto_156 : decode cX7_readInto 156 = .ok (.iinc 2 1, 3) := by decide +kernel
theorem dX7_readInto_159 : decode cX7_readInto 159 = .ok (.iinc 3 1, 3) := by decide +kernel
theorem dX7_readInto_162 : decode cX7_readInto 162 = .ok (.goto (-144), 3) := by decide +kernel
theorem dX7_readInto_165 : decode cX7_readInto 165 = .ok (.iload_n 2, 1) := by decide +kernel
theorem dX7_readInto_166 : decode cX7_readInto 166 = .ok (.ireturn, 1) := by decide +kernel
set_option maxRecDepth 20000 in
theorem ggX7_readCell_X7_number : GoodIn wsX7_readCell wsX7_number := goodIn_r _ [5, 6, 7, 8, 9, 10, 11, 12, 4, 13, 14, 15, 16, 17, 18, 19, 20, 21, 22, 23, 24, 25, 26, 27, 28, 29, 46, 47, 48, 49, 50, 51, 52] (by decide +kernel) (by decide +kernel)
set_option maxRecDepth 20000 in
theorem gX7_readCell_X7_number : GoodIn wsX7_readCell (wsV RX7 59 RX7 yX7_number wsX7_number) := goodIn_app (goodIn_of _ (by decide +kernel)) ggX7_readCell_X7_number
set_option maxRecDepth 20000 in
theorem ggX7_readCell_X7_stops : GoodIn wsX7_readCell wsX7_stops := goodIn_r _ [33, 6, 7, 9, 10, 11, 12, 4, 13, 14, 15, 8, 16, 17, 18, 19, 20, 21, 22, 23, 24, 25, 26, 27, 28, 29, 46, 47, 48, 49, 50, 51, 52] (by decide +kernel) (by decide +kernel)
set_option maxRecDepth 20000 in
theorem gX7_readCell_X7_stops : GoodIn wsX7_readCell (wsV RX7 63 RX7 yX7_stops wsX7_stops) := goodIn_app (goodIn_of _ (by decide +kernel)) ggX7_readCell_X7_stops
set_option maxRecDepth 20000 in
theorem ggX7_readCell_X10_put : GoodIn wsX7_readCell wsX10_put := goodIn_r _ [35] (by decide +kernel) (by decide +kernel)
set_option maxRecDepth 20000 in
theorem gX7_readCell_X10_put_n19 : GoodIn wsX7_readCell (wsX10_put) := ggX7_readCell_X10_put
theorem dX7_readCell_0 : decode cX7_readCell 0 = .ok (.aload_n 0, 1) := by decide +kernel
theorem dX7_readCell_1 : decode cX7_readCell 1 = .ok (.iconst 0, 1) := by decide +kernel
theorem dX7_readCell_2 : decode cX7_readCell 2 = .ok (.bipush 9, 2) := by decide +kernel
theorem dX7_readCell_4 : decode cX7_readCell 4 = .ok (.iconst (-1), 1) := by decide +kernel
theorem dX7_readCell_5 : decode cX7_readCell 5 = .ok (.invokevirtual 59, 3) := by decide +kernel
theorem dX7_readCell_8 : decode cX7_readCell 8 = .ok (.istore_n 2, 1) := by decide +kernel
theorem dX7_readCell_9 : decode cX7_readCell 9 = .ok (.aload_n 0, 1) := by decide +kernel
theorem dX7_readCell_10 : decode cX7_readCell 10 = .ok (.iconst 1, 1) := by decide +kernel
theorem dX7_readCell_11 : decode cX7_readCell 11 = .ok (.bipush 9, 2) := by decide +kernel
theorem dX7_readCell_13 : decode cX7_readCell 13 = .ok (.iconst (-1), 1) := by decide +kernel
theorem dX7_readCell_14 : decode cX7_readCell 14 = .ok (.invokevirtual 59, 3) := by decide +kernel
theorem dX7_readCell_17 : decode cX7_readCell 17 = .ok (.istore_n 3, 1) := by decide +kernel
theorem dX7_readCell_18 : decode cX7_readCell 18 = .ok (.aload_n 0, 1) := by decide +kernel
theorem dX7_readCell_19 : decode cX7_readCell 19 = .ok (.iconst 0, 1) := by decide +kernel
theorem dX7_readCell_20 : decode cX7_readCell 20 = .ok (.iconst 3, 1) := by decide +kernel
theorem dX7_readCell_21 : decode cX7_readCell 21 = .ok (.iconst (-1), 1) := by decide +kernel
theorem dX7_readCell_22 : decode cX7_readCell 22 = .ok (.invokevirtual 59, 3) := by decide +kernel
theorem dX7_readCell_25 : decode cX7_readCell 25 = .ok (.istore 4, 2) := by decide +kernel
theorem dX7_readCell_27 : decode cX7_readCell 27 = .ok (.aload_n 0, 1) := by decide +kernel
theorem dX7_readCell_28 : decode cX7_readCell 28 = .ok (.invokevirtual 63, 3) := by decide +kernel
theorem dX7_readCell_31 : decode cX7_readCell 31 = .ok (.ifCond .eq 22, 3) := by decide +kernel
theorem dX7_readCell_34 : decode cX7_readCell 34 = .ok (.aload_n 1, 1) := by decide +kernel
theorem dX7_readCell_35 : decode cX7_readCell 35 = .ok (.getfield 67, 3) := by decide +kernel
theorem dX7_readCell_38 : decode cX7_readCell 38 = .ok (.iload_n 2, 1) := by decide +kernel
theorem dX7_readCell_39 : decode cX7_readCell 39 = .ok (.iload_n 3, 1) := by decide +kernel
theorem dX7_readCell_40 : decode cX7_readCell 40 = .ok (.invokestatic 19, 3) := by decide +kernel
theorem dX7_readCell_43 : decode cX7_readCell 43 = .ok (.aload_n 1, 1) := by decide +kernel
theorem dX7_readCell_44 : decode cX7_readCell 44 = .ok (.getfield 70, 3) := by decide +kernel
theorem dX7_readCell_47 : decode cX7_readCell 47 = .ok (.iload_n 2, 1) := by decide +kernel
theorem dX7_readCell_48 : decode cX7_readCell 48 = .ok (.iload 4, 2) := by decide +kernel
theorem dX7_readCell_50 : decode cX7_readCell 50 = .ok (.invokestatic 19, 3) := by decide +kernel
theorem dX7_readCell_53 : decode cX7_readCell 53 = .ok (.return_, 1) := by decide +kernel
set_option maxRecDepth 20000 in
theorem ggX7_readRaft_X7_number : GoodIn wsX7_readRaft wsX7_number := goodIn_r _ [7, 2, 8, 9, 1, 10, 11, 12, 6, 13, 14, 15, 16, 17, 18, 19, 20, 21, 22, 23, 24, 25, 26, 27, 28, 29, 57, 58, 59, 60, 61, 62, 63] (by decide +kernel) (by decide +kernel)
set_option maxRecDepth 20000 in
theorem gX7_readRaft_X7_number : GoodIn wsX7_readRaft (wsV RX7 59 RX7 yX7_number wsX7_number) := goodIn_app (goodIn_of _ (by decide +kernel)) ggX7_readRaft_X7_number
set_option maxRecDepth 20000 in
theorem ggX7_readRaft_X7_stops : GoodIn wsX7_readRaft wsX7_stops := goodIn_r _ [33, 2, 8, 1, 10, 11, 12, 6, 13, 14, 15, 9, 16, 17, 18, 19, 20, 21, 22, 23, 24, 25, 26, 27, 28, 29, 57, 58, 59, 60, 61, 62, 63] (by decide +kernel) (by decide +kernel)
set_option maxRecDepth 20000 in
theorem gX7_readRaft_X7_stops : GoodIn wsX7_readRaft (wsV RX7 63 RX7 yX7_stops wsX7_stops) := goodIn_app (goodIn_of _ (by decide +kernel)) ggX7_readRaft_X7_stops
set_option maxRecDepth 20000 in
theorem ggX7_readRaft_X9_addRaft : GoodIn wsX7_readRaft wsX9_addRaft := goodIn_r _ [37, 38, 39, 40, 41, 42, 43, 44, 45, 22, 46, 47, 48, 49, 50, 51, 52, 53, 54, 55, 56, 64] (by decide +kernel) (by decide +kernel)
set_option maxRecDepth 20000 in
theorem gX7_readRaft_X9_addRaft_n76 : GoodIn wsX7_readRaft (wsX9_addRaft) := ggX7_readRaft_X9_addRaft
theorem dX7_readRaft_0 : decode cX7_readRaft 0 = .ok (.aload_n 1, 1) := by decide +kernel
theorem dX7_readRaft_1 : decode cX7_readRaft 1 = .ok (.getfield 73, 3) := by decide +kernel
theorem dX7_readRaft_4 : decode cX7_readRaft 4 = .ok (.bipush 6, 2) := by decide +kernel
theorem dX7_readRaft_6 : decode cX7_readRaft 6 = .ok (.if_icmp .lt 11, 3) := by decide +kernel
theorem dX7_readRaft_9 : decode cX7_readRaft 9 = .ok (.aload_n 0, 1) := by decide +kernel
theorem dX7_readRaft_10 : decode cX7_readRaft 10 = .ok (.aload_n 0, 1) := by decide +kernel
theorem dX7_readRaft_11 : decode cX7_readRaft 11 = .ok (.getfield 56, 3) := by decide +kernel
theorem dX7_readRaft_14 : decode cX7_readRaft 14 = .ok (.putfield 31, 3) := by decide +kernel
theorem dX7_readRaft_17 : decode cX7_readRaft 17 = .ok (.aload_n 0, 1) := by decide +kernel
theorem dX7_readRaft_18 : decode cX7_readRaft 18 = .ok (.iconst 0, 1) := by decide +kernel
theorem dX7_readRaft_19 : decode cX7_readRaft 19 = .ok (.aload_n 1, 1) := by decide +kernel
theorem dX7_readRaft_20 : decode cX7_readRaft 20 = .ok (.getfield 73, 3) := by decide +kernel
theorem dX7_readRaft_23 : decode cX7_readRaft 23 = .ok (.iconst (-1), 1) := by decide +kernel
theorem dX7_readRaft_24 : decode cX7_readRaft 24 = .ok (.invokevirtual 59, 3) := by decide +kernel
theorem dX7_readRaft_27 : decode cX7_readRaft 27 = .ok (.istore_n 2, 1) := by decide +kernel
theorem dX7_readRaft_28 : decode cX7_readRaft 28 = .ok (.aload_n 0, 1) := by decide +kernel
theorem dX7_readRaft_29 : decode cX7_readRaft 29 = .ok (.invokevirtual 63, 3) := by decide +kernel
theorem dX7_readRaft_32 : decode cX7_readRaft 32 = .ok (.ifCond .eq 8, 3) := by decide +kernel
theorem dX7_readRaft_35 : decode cX7_readRaft 35 = .ok (.aload_n 1, 1) := by decide +kernel
theorem dX7_readRaft_36 : decode cX7_readRaft 36 = .ok (.iload_n 2, 1) := by decide +kernel
theorem dX7_readRaft_37 : decode cX7_readRaft 37 = .ok (.invokevirtual 76, 3) := by decide +kernel
theorem dX7_readRaft_40 : decode cX7_readRaft 40 = .ok (.return_, 1) := by decide +kernel
set_option maxRecDepth 20000 in
theorem ggX7_readAnchor_X7_number : GoodIn wsX7_readAnchor wsX7_number := goodIn_r _ [7, 2, 8, 9, 1, 10, 11, 12, 6, 13, 14, 15, 16, 17, 18, 19, 20, 21, 22, 23, 24, 25, 26, 27, 28, 29, 60, 61, 62, 63, 64, 65, 66] (by decide +kernel) (by decide +kernel)
set_option maxRecDepth 20000 in
theorem gX7_readAnchor_X7_number : GoodIn wsX7_readAnchor (wsV RX7 59 RX7 yX7_number wsX7_number) := goodIn_app (goodIn_of _ (by decide +kernel)) ggX7_readAnchor_X7_number
set_option maxRecDepth 20000 in
theorem ggX7_readAnchor_X7_stops : GoodIn wsX7_readAnchor wsX7_stops := goodIn_r _ [33, 2, 8, 1, 10, 11, 12, 6, 13, 14, 15, 9, 16, 17, 18, 19, 20, 21, 22, 23, 24, 25, 26, 27, 28, 29, 60, 61, 62, 63, 64, 65, 66] (by decide +kernel) (by decide +kernel)
set_option maxRecDepth 20000 in
theorem gX7_readAnchor_X7_stops : GoodIn wsX7_readAnchor (wsV RX7 63 RX7 yX7_stops wsX7_stops) := goodIn_app (goodIn_of _ (by decide +kernel)) ggX7_readAnchor_X7_stops
set_option maxRecDepth 20000 in
theorem ggX7_readAnchor_X9_addAnchor : GoodIn wsX7_readAnchor wsX9_addAnchor := goodIn_r _ [37, 38, 39, 40, 41, 42, 43, 22, 44, 45, 46, 47, 48, 49, 50, 51, 52, 53, 54, 55, 56, 57, 58, 59, 67] (by decide +kernel) (by decide +kernel)
set_option maxRecDepth 20000 in
theorem gX7_readAnchor_X9_addAnchor_n83 : GoodIn wsX7_readAnchor (wsX9_addAnchor) := ggX7_readAnchor_X9_addAnchor
theorem dX7_readAnchor_0 : decode cX7_readAnchor 0 = .ok (.aload_n 1, 1) := by decide +kernel
theorem dX7_readAnchor_1 : decode cX7_readAnchor 1 = .ok (.getfield 80, 3) := by decide +kernel
theorem dX7_readAnchor_4 : decode cX7_readAnchor 4 = .ok (.bipush 8, 2) := by decide +kernel
theorem dX7_readAnchor_6 : decode cX7_readAnchor 6 = .ok (.if_icmp .lt 11, 3) := by decide +kernel
theorem dX7_readAnchor_9 : decode cX7_readAnchor 9 = .ok (.aload_n 0, 1) := by decide +kernel
theorem dX7_readAnchor_10 : decode cX7_readAnchor 10 = .ok (.aload_n 0, 1) := by decide +kernel
theorem dX7_readAnchor_11 : decode cX7_readAnchor 11 = .ok (.getfield 56, 3) := by decide +kernel
theorem dX7_readAnchor_14 : decode cX7_readAnchor 14 = .ok (.putfield 31, 3) := by decide +kernel
theorem dX7_readAnchor_17 : decode cX7_readAnchor 17 = .ok (.aload_n 0, 1) := by decide +kernel
theorem dX7_readAnchor_18 : decode cX7_readAnchor 18 = .ok (.iconst 0, 1) := by decide +kernel
theorem dX7_readAnchor_19 : decode cX7_readAnchor 19 = .ok (.aload_n 1, 1) := by decide +kernel
theorem dX7_readAnchor_20 : decode cX7_readAnchor 20 = .ok (.getfield 73, 3) := by decide +kernel
theorem dX7_readAnchor_23 : decode cX7_readAnchor 23 = .ok (.iconst 1, 1) := by decide +kernel
theorem dX7_readAnchor_24 : decode cX7_readAnchor 24 = .ok (.isub, 1) := by decide +kernel
theorem dX7_readAnchor_25 : decode cX7_readAnchor 25 = .ok (.iconst (-1), 1) := by decide +kernel
theorem dX7_readAnchor_26 : decode cX7_readAnchor 26 = .ok (.invokevirtual 59, 3) := by decide +kernel
theorem dX7_readAnchor_29 : decode cX7_readAnchor 29 = .ok (.istore_n 2, 1) := by decide +kernel
theorem dX7_readAnchor_30 : decode cX7_readAnchor 30 = .ok (.aload_n 0, 1) := by decide +kernel
theorem dX7_readAnchor_31 : decode cX7_readAnchor 31 = .ok (.iconst 0, 1) := by decide +kernel
theorem dX7_readAnchor_32 : decode cX7_readAnchor 32 = .ok (.bipush 9, 2) := by decide +kernel
theorem dX7_readAnchor_34 : decode cX7_readAnchor 34 = .ok (.iconst (-1), 1) := by decide +kernel
theorem dX7_readAnchor_35 : decode cX7_readAnchor 35 = .ok (.invokevirtual 59, 3) := by decide +kernel
theorem dX7_readAnchor_38 : decode cX7_readAnchor 38 = .ok (.istore_n 3, 1) := by decide +kernel
theorem dX7_readAnchor_39 : decode cX7_readAnchor 39 = .ok (.aload_n 0, 1) := by decide +kernel
theorem dX7_readAnchor_40 : decode cX7_readAnchor 40 = .ok (.iconst 1, 1) := by decide +kernel
theorem dX7_readAnchor_41 : decode cX7_readAnchor 41 = .ok (.bipush 9, 2) := by decide +kernel
theorem dX7_readAnchor_43 : decode cX7_readAnchor 43 = .ok (.iconst (-1), 1) := by decide +kernel
theorem dX7_readAnchor_44 : decode cX7_readAnchor 44 = .ok (.invokevirtual 59, 3) := by decide +kernel
theorem dX7_readAnchor_47 : decode cX7_readAnchor 47 = .ok (.istore 4, 2) := by decide +kernel
theorem dX7_readAnchor_49 : decode cX7_readAnchor 49 = .ok (.aload_n 0, 1) := by decide +kernel
theorem dX7_readAnchor_50 : decode cX7_readAnchor 50 = .ok (.iconst 1, 1) := by decide +kernel
theorem dX7_readAnchor_51 : decode cX7_readAnchor 51 = .ok (.bipush 60, 2) := by decide +kernel
theorem dX7_readAnchor_53 : decode cX7_readAnchor 53 = .ok (.iconst (-1), 1) := by decide +kernel
theorem dX7_readAnchor_54 : decode cX7_readAnchor 54 = .ok (.invokevirtual 59, 3) := by decide +kernel
theorem dX7_readAnchor_57 : decode cX7_readAnchor 57 = .ok (.istore 5, 2) := by decide +kernel
theorem dX7_readAnchor_59 : decode cX7_readAnchor 59 = .ok (.aload_n 0, 1) := by decide +kernel
theorem dX7_readAnchor_60 : decode cX7_readAnchor 60 = .ok (.iconst 0, 1) := by decide +kernel
theorem dX7_readAnchor_61 : decode cX7_readAnchor 61 = .ok (.bipush 99, 2) := by decide +kernel
theorem dX7_readAnchor_63 : decode cX7_readAnchor 63 = .ok (.iconst (-1), 1) := by decide +kernel
theorem dX7_readAnchor_64 : decode cX7_readAnchor 64 = .ok (.invokevirtual 59, 3) := by decide +kernel
theorem dX7_readAnchor_67 : decode cX7_readAnchor 67 = .ok (.istore 6, 2) := by decide +kernel
theorem dX7_readAnchor_69 : decode cX7_readAnchor 69 = .ok (.aload_n 0, 1) := by decide +kernel
theorem dX7_readAnchor_70 : decode cX7_readAnchor 70 = .ok (.invokevirtual 63, 3) := by decide +kernel
theorem dX7_readAnchor_73 : decode cX7_readAnchor 73 = .ok (.ifCond .eq 15, 3) := by decide +kernel
theorem dX7_readAnchor_76 : decode cX7_readAnchor 76 = .ok (.aload_n 1, 1) := by decide +kernel
theorem dX7_readAnchor_77 : decode cX7_readAnchor 77 = .ok (.iload_n 2, 1) := by decide +kernel
theorem dX7_readAnchor_78 : decode cX7_readAnchor 78 = .ok (.iload_n 3, 1) := by decide +kernel
theorem dX7_readAnchor_79 : decode cX7_readAnchor 79 = .ok (.iload 4, 2) := by decide +kernel
theorem dX7_readAnchor_81 : decode cX7_readAnchor 81 = .ok (.iload 5, 2) := by decide +kernel
theorem dX7_readAnchor_83 : decode cX7_readAnchor 83 = .ok (.iload 6, 2) := by decide +kernel
theorem dX7_readAnchor_85 : decode cX7_readAnchor 85 = .ok (.invokevirtual 83, 3) := by decide +kernel
theorem dX7_readAnchor_88 : decode cX7_readAnchor 88 = .ok (.return_, 1) := by decide +kernel
set_option maxRecDepth 20000 in
theorem ggX7_readRope_X7_number : GoodIn wsX7_readRope wsX7_number := goodIn_r _ [5, 6, 7, 8, 9, 10, 11, 12, 4, 13, 14, 15, 16, 17, 18, 19, 20, 21, 22, 23, 24, 25, 26, 27, 28, 29, 57, 58, 59, 60, 61, 62, 63] (by decide +kernel) (by decide +kernel)
set_option maxRecDepth 20000 in
theorem gX7_readRope_X7_number : GoodIn wsX7_readRope (wsV RX7 59 RX7 yX7_number wsX7_number) := goodIn_app (goodIn_of _ (by decide +kernel)) ggX7_readRope_X7_number
set_option maxRecDepth 20000 in
theorem ggX7_readRope_X7_stops : GoodIn wsX7_readRope wsX7_stops := goodIn_r _ [33, 6, 7, 9, 10, 11, 12, 4, 13, 14, 15, 8, 16, 17, 18, 19, 20, 21, 22, 23, 24, 25, 26, 27, 28, 29, 57, 58, 59, 60, 61, 62, 63] (by decide +kernel) (by decide +kernel)
set_option maxRecDepth 20000 in
theorem gX7_readRope_X7_stops : GoodIn wsX7_readRope (wsV RX7 63 RX7 yX7_stops wsX7_stops) := goodIn_app (goodIn_of _ (by decide +kernel)) ggX7_readRope_X7_stops
set_option maxRecDepth 20000 in
theorem ggX7_readRope_X9_addRope : GoodIn wsX7_readRope wsX9_addRope := goodIn_r _ [37, 38, 39, 21, 22, 23, 40, 41, 42, 43, 44, 45, 46, 47, 48, 49, 50, 51, 52, 53, 54, 55, 56] (by decide +kernel) (by decide +kernel)
set_option maxRecDepth 20000 in
theorem gX7_readRope_X9_addRope_n87 : GoodIn wsX7_readRope (wsX9_addRope) := ggX7_readRope_X9_addRope
theorem dX7_readRope_0 : decode cX7_readRope 0 = .ok (.aload_n 0, 1) := by decide +kernel
theorem dX7_readRope_1 : decode cX7_readRope 1 = .ok (.iconst 0, 1) := by decide +kernel
theorem dX7_readRope_2 : decode cX7_readRope 2 = .ok (.aload_n 1, 1) := by decide +kernel
theorem dX7_readRope_3 : decode cX7_readRope 3 = .ok (.getfield 73, 3) := by decide +kernel
theorem dX7_readRope_6 : decode cX7_readRope 6 = .ok (.iconst 1, 1) := by decide +kernel
theorem dX7_readRope_7 : decode cX7_readRope 7 = .ok (.isub, 1) := by decide +kernel
theorem dX7_readRope_8 : decode cX7_readRope 8 = .ok (.iconst (-1), 1) := by decide +kernel
theorem dX7_readRope_9 : decode cX7_readRope 9 = .ok (.invokevirtual 59, 3) := by decide +kernel
theorem dX7_readRope_12 : decode cX7_readRope 12 = .ok (.istore_n 2, 1) := by decide +kernel
theorem dX7_readRope_13 : decode cX7_readRope 13 = .ok (.aload_n 0, 1) := by decide +kernel
theorem dX7_readRope_14 : decode cX7_readRope 14 = .ok (.iconst 0, 1) := by decide +kernel
theorem dX7_readRope_15 : decode cX7_readRope 15 = .ok (.aload_n 1, 1) := by decide +kernel
theorem dX7_readRope_16 : decode cX7_readRope 16 = .ok (.getfield 73, 3) := by decide +kernel
theorem dX7_readRope_19 : decode cX7_readRope 19 = .ok (.iconst 1, 1) := by decide +kernel
theorem dX7_readRope_20 : decode cX7_readRope 20 = .ok (.isub, 1) := by decide +kernel
theorem dX7_readRope_21 : decode cX7_readRope 21 = .ok (.iload_n 2, 1) := by decide +kernel
theorem dX7_readRope_22 : decode cX7_readRope 22 = .ok (.invokevirtual 59, 3) := by decide +kernel
theorem dX7_readRope_25 : decode cX7_readRope 25 = .ok (.istore_n 3, 1) := by decide +kernel
theorem dX7_readRope_26 : decode cX7_readRope 26 = .ok (.aload_n 0, 1) := by decide +kernel
theorem dX7_readRope_27 : decode cX7_readRope 27 = .ok (.invokevirtual 63, 3) := by decide +kernel
theorem dX7_readRope_30 : decode cX7_readRope 30 = .ok (.ifCond .eq 9, 3) := by decide +kernel
theorem dX7_readRope_33 : decode cX7_readRope 33 = .ok (.aload_n 1, 1) := by decide +kernel
theorem dX7_readRope_34 : decode cX7_readRope 34 = .ok (.iload_n 2, 1) := by decide +kernel
theorem dX7_readRope_35 : decode cX7_readRope 35 = .ok (.iload_n 3, 1) := by decide +kernel
theorem dX7_readRope_36 : decode cX7_readRope 36 = .ok (.invokevirtual 87, 3) := by decide +kernel
theorem dX7_readRope_39 : decode cX7_readRope 39 = .ok (.return_, 1) := by decide +kernel
set_option maxRecDepth 20000 in
theorem ggX7_number_X7_nextToken : GoodIn wsX7_number wsX7_nextToken := goodIn_r _ [9, 10, 4, 11, 3, 12, 2, 13, 14, 15, 8, 16, 17, 18, 19, 20, 21, 22, 23, 24, 25, 26, 27, 28, 29, 30, 31, 32] (by decide +kernel) (by decide +kernel)
set_option maxRecDepth 20000 in
theorem gX7_number_X7_nextToken : GoodIn wsX7_number (wsV RX7 34 RX7 yX7_nextToken wsX7_nextToken) := goodIn_app (goodIn_of _ (by decide +kernel)) ggX7_number_X7_nextToken
set_option maxRecDepth 20000 in
theorem ggX7_number_X10_isOutside : GoodIn wsX7_number wsX10_isOutside := goodIn_r _ [21] (by decide +kernel) (by decide +kernel)
set_option maxRecDepth 20000 in
theorem gX7_number_X10_isOutside_n91 : GoodIn wsX7_number (wsX10_isOutside) := ggX7_number_X10_isOutside
theorem dX7_number_0 : decode cX7_number 0 = .ok (.aload_n 0, 1) := by decide +kernel
theorem dX7_number_1 : decode cX7_number 1 = .ok (.getfield 31, 3) := by decide +kernel
theorem dX7_number_4 : decode cX7_number 4 = .ok (.iconst (-1), 1) := by decide +kernel
theorem dX7_number_5 : decode cX7_number 5 = .ok (.if_icmp .eq 5, 3) := by decide +kernel
theorem dX7_number_8 : decode cX7_number 8 = .ok (.iconst 0, 1) := by decide +kernel
theorem dX7_number_9 : decode cX7_number 9 = .ok (.ireturn, 1) := by decide +kernel
theorem dX7_number_10 : decode cX7_number 10 = .ok (.aload_n 0, 1) := by decide +kernel
theorem dX7_number_11 : decode cX7_number 11 = .ok (.invokevirtual 34, 3) := by decide +kernel
theorem dX7_number_14 : decode cX7_number 14 = .ok (.aload_n 0, 1) := by decide +kernel
theorem dX7_number_15 : decode cX7_number 15 = .ok (.getfield 37, 3) := by decide +kernel
theorem dX7_number_18 : decode cX7_number 18 = .ok (.iconst 2, 1) := by decide +kernel
theorem dX7_number_19 : decode cX7_number 19 = .ok (.if_icmp .ne 23, 3) := by decide +kernel
theorem dX7_number_22 : decode cX7_number 22 = .ok (.aload_n 0, 1) := by decide +kernel
theorem dX7_number_23 : decode cX7_number 23 = .ok (.getfield 40, 3) := by decide +kernel
theorem dX7_number_26 : decode cX7_number 26 = .ok (.iload_n 1, 1) := by decide +kernel
theorem dX7_number_27 : decode cX7_number 27 = .ok (.iload_n 2, 1) := by decide +kernel
theorem dX7_number_28 : decode cX7_number 28 = .ok (.invokestatic 91, 3) := by decide +kernel
theorem dX7_number_31 : decode cX7_number 31 = .ok (.ifCond .ne 11, 3) := by decide +kernel
theorem dX7_number_34 : decode cX7_number 34 = .ok (.aload_n 0, 1) := by decide +kernel
theorem dX7_number_35 : decode cX7_number 35 = .ok (.getfield 40, 3) := by decide +kernel
theorem dX7_number_38 : decode cX7_number 38 = .ok (.iload_n 3, 1) := by decide +kernel
theorem dX7_number_39 : decode cX7_number 39 = .ok (.if_icmp .ne 13, 3) := by decide +kernel
theorem dX7_number_42 : decode cX7_number 42 = .ok (.aload_n 0, 1) := by decide +kernel
theorem dX7_number_43 : decode cX7_number 43 = .ok (.aload_n 0, 1) := by decide +kernel
theorem dX7_number_44 : decode cX7_number 44 = .ok (.getfield 56, 3) := by decide +kernel
theorem dX7_number_47 : decode cX7_number 47 = .ok (.putfield 31, 3) := by decide +kernel
theorem dX7_number_50 : decode cX7_number 50 = .ok (.iconst 0, 1) := by decide +kernel
theorem dX7_number_51 : decode cX7_number 51 = .ok (.ireturn, 1) := by decide +kernel
theorem dX7_number_52 : decode cX7_number 52 = .ok (.aload_n 0, 1) := by decide +kernel
theorem dX7_number_53 : decode cX7_number 53 = .ok (.getfield 40, 3) := by decide +kernel
theorem dX7_number_56 : decode cX7_number 56 = .ok (.ireturn, 1) := by decide +kernel
set_option maxRecDepth 20000 in
theorem ggX7_stops_X7_nextToken : GoodIn wsX7_stops wsX7_nextToken := goodIn_r _ [8, 9, 3, 10, 11, 12, 2, 13, 14, 15, 7, 16, 17, 18, 19, 20, 21, 22, 23, 24, 25, 26, 27, 28, 29, 30, 31, 32] (by decide +kernel) (by decide +kernel)
set_option maxRecDepth 20000 in
theorem gX7_stops_X7_nextToken : GoodIn wsX7_stops (wsV RX7 34 RX7 yX7_nextToken wsX7_nextToken) := goodIn_app (goodIn_of _ (by decide +kernel)) ggX7_stops_X7_nextToken
theorem dX7_stops_0 : decode cX7_stops 0 = .ok (.aload_n 0, 1) := by decide +kernel
theorem dX7_stops_1 : decode cX7_stops 1 = .ok (.getfield 31, 3) := by decide +kernel
theorem dX7_stops_4 : decode cX7_stops 4 = .ok (.iconst (-1), 1) := by decide +kernel
theorem dX7_stops_5 : decode cX7_stops 5 = .ok (.if_icmp .eq 5, 3) := by decide +kernel
theorem dX7_stops_8 : decode cX7_stops 8 = .ok (.iconst 0, 1) := by decide +kernel
theorem dX7_stops_9 : decode cX7_stops 9 = .ok (.ireturn, 1) := by decide +kernel
theorem dX7_stops_10 : decode cX7_stops 10 = .ok (.aload_n 0, 1) := by decide +kernel
theorem dX7_stops_11 : decode cX7_stops 11 = .ok (.invokevirtual 34, 3) := by decide +kernel
theorem dX7_stops_14 : decode cX7_stops 14 = .ok (.aload_n 0, 1) := by decide +kernel
theorem dX7_stops_15 : decode cX7_stops 15 = .ok (.getfield 37, 3) := by decide +kernel
theorem dX7_stops_18 : decode cX7_stops 18 = .ok (.iconst 3, 1) := by decide +kernel
theorem dX7_stops_19 : decode cX7_stops 19 = .ok (.if_icmp .eq 11, 3) := by decide +kernel
theorem dX7_stops_22 : decode cX7_stops 22 = .ok (.aload_n 0, 1) := by decide +kernel
theorem dX7_stops_23 : decode cX7_stops 23 = .ok (.aload_n 0, 1) := by decide +kernel
theorem dX7_stops_24 : decode cX7_stops 24 = .ok (.getfield 56, 3) := by decide +kernel
theorem dX7_stops_27 : decode cX7_stops 27 = .ok (.putfield 31, 3) := by decide +kernel
theorem dX7_stops_30 : decode cX7_stops 30 = .ok (.aload_n 0, 1) := by decide +kernel
theorem dX7_stops_31 : decode cX7_stops 31 = .ok (.getfield 31, 3) := by decide +kernel
theorem dX7_stops_34 : decode cX7_stops 34 = .ok (.iconst (-1), 1) := by decide +kernel
theorem dX7_stops_35 : decode cX7_stops 35 = .ok (.if_icmp .ne 7, 3) := by decide +kernel
theorem dX7_stops_38 : decode cX7_stops 38 = .ok (.iconst 1, 1) := by decide +kernel
theorem dX7_stops_39 : decode cX7_stops 39 = .ok (.goto 4, 3) := by decide +kernel
theorem dX7_stops_42 : decode cX7_stops 42 = .ok (.iconst 0, 1) := by decide +kernel
theorem dX7_stops_43 : decode cX7_stops 43 = .ok (.ireturn, 1) := by decide +kernel
set_option maxRecDepth 20000 in
theorem ggX7_nextToken_X7_endOfRun : GoodIn wsX7_nextToken wsX7_endOfRun := goodIn_r _ [11, 1, 5, 3, 12, 13, 14, 15, 16, 21, 22, 23, 24, 25, 26, 27] (by decide +kernel) (by decide +kernel)
set_option maxRecDepth 20000 in
theorem gX7_nextToken_X7_endOfRun : GoodIn wsX7_nextToken (wsV RX7 95 RX7 yX7_endOfRun wsX7_endOfRun) := goodIn_app (goodIn_of _ (by decide +kernel)) ggX7_nextToken_X7_endOfRun
set_option maxRecDepth 20000 in
theorem ggX7_nextToken_X10_at : GoodIn wsX7_nextToken wsX10_at := goodIn_r _ [14] (by decide +kernel) (by decide +kernel)
set_option maxRecDepth 20000 in
theorem gX7_nextToken_X10_at_n99 : GoodIn wsX7_nextToken (wsX10_at) := ggX7_nextToken_X10_at
set_option maxRecDepth 20000 in
theorem ggX7_nextToken_X10_isOutside : GoodIn wsX7_nextToken wsX10_isOutside := goodIn_r _ [16] (by decide +kernel) (by decide +kernel)
set_option maxRecDepth 20000 in
theorem gX7_nextToken_X10_isOutside_n91 : GoodIn wsX7_nextToken (wsX10_isOutside) := ggX7_nextToken_X10_isOutside
set_option maxRecDepth 20000 in
theorem ggX7_nextToken_X7_valueOfDigits : GoodIn wsX7_nextToken wsX7_valueOfDigits := goodIn_r _ [20, 3, 2, 1, 12, 13, 14, 21, 22, 23, 24, 25, 26, 27] (by decide +kernel) (by decide +kernel)
set_option maxRecDepth 20000 in
theorem gX7_nextToken_X7_valueOfDigits : GoodIn wsX7_nextToken (wsV RX7 103 RX7 yX7_valueOfDigits wsX7_valueOfDigits) := goodIn_app (goodIn_of _ (by decide +kernel)) ggX7_nextToken_X7_valueOfDigits
theorem dX7_nextToken_0 : decode cX7_nextToken 0 = .ok (.aload_n 0, 1) := by decide +kernel
theorem dX7_nextToken_1 : decode cX7_nextToken 1 = .ok (.aload_n 0, 1) := by decide +kernel
theorem dX7_nextToken_2 : decode cX7_nextToken 2 = .ok (.bipush 32, 2) := by decide +kernel
theorem dX7_nextToken_4 : decode cX7_nextToken 4 = .ok (.bipush 32, 2) := by decide +kernel
theorem dX7_nextToken_6 : decode cX7_nextToken 6 = .ok (.invokevirtual 95, 3) := by decide +kernel
theorem dX7_nextToken_9 : decode cX7_nextToken 9 = .ok (.putfield 28, 3) := by decide +kernel
theorem dX7_nextToken_12 : decode cX7_nextToken 12 = .ok (.aload_n 0, 1) := by decide +kernel
theorem dX7_nextToken_13 : decode cX7_nextToken 13 = .ok (.aload_n 0, 1) := by decide +kernel
theorem dX7_nextToken_14 : decode cX7_nextToken 14 = .ok (.getfield 28, 3) := by decide +kernel
theorem dX7_nextToken_17 : decode cX7_nextToken 17 = .ok (.putfield 56, 3) := by decide +kernel
theorem dX7_nextToken_20 : decode cX7_nextToken 20 = .ok (.aload_n 0, 1) := by decide +kernel
theorem dX7_nextToken_21 : decode cX7_nextToken 21 = .ok (.aload_n 0, 1) := by decide +kernel
theorem dX7_nextToken_22 : decode cX7_nextToken 22 = .ok (.getfield 11, 3) := by decide +kernel
theorem dX7_nextToken_25 : decode cX7_nextToken 25 = .ok (.aload_n 0, 1) := by decide +kernel
theorem dX7_nextToken_26 : decode cX7_nextToken 26 = .ok (.getfield 56, 3) := by decide +kernel
theorem dX7_nextToken_29 : decode cX7_nextToken 29 = .ok (.invokestatic 99, 3) := by decide +kernel
theorem dX7_nextToken_32 : decode cX7_nextToken 32 = .ok (.putfield 40, 3) := by decide +kernel
theorem dX7_nextToken_35 : decode cX7_nextToken 35 = .ok (.aload_n 0, 1) := by decide +kernel
theorem dX7_nextToken_36 : decode cX7_nextToken 36 = .ok (.getfield 56, 3) := by decide +kernel
theorem dX7_nextToken_39 : decode cX7_nextToken 39 = .ok (.aload_n 0, 1) := by decide +kernel
theorem dX7_nextToken_40 : decode cX7_nextToken 40 = .ok (.getfield 15, 3) := by decide +kernel
theorem dX7_nextToken_43 : decode cX7_nextToken 43 = .ok (.if_icmp .lt 11, 3) := by decide +kernel
theorem dX7_nextToken_46 : decode cX7_nextToken 46 = .ok (.aload_n 0, 1) := by decide +kernel
theorem dX7_nextToken_47 : decode cX7_nextToken 47 = .ok (.iconst 0, 1) := by decide +kernel
theorem dX7_nextToken_48 : decode cX7_nextToken 48 = .ok (.putfield 37, 3) := by decide +kernel
theorem dX7_nextToken_51 : decode cX7_nextToken 51 = .ok (.goto 143, 3) := by decide +kernel
theorem dX7_nextToken_54 : decode cX7_nextToken 54 = .ok (.aload_n 0, 1) := by decide +kernel
theorem dX7_nextToken_55 : decode cX7_nextToken 55 = .ok (.getfield 40, 3) := by decide +kernel
theorem dX7_nextToken_58 : decode cX7_nextToken 58 = .ok (.bipush 97, 2) := by decide +kernel
theorem dX7_nextToken_60 : decode cX7_nextToken 60 = .ok (.bipush 122, 2) := by decide +kernel
theorem dX7_nextToken_62 : decode cX7_nextToken 62 = .ok (.invokestatic 91, 3) := by decide +kernel
theorem dX7_nextToken_65 : decode cX7_nextToken 65 = .ok (.ifCond .ne 48, 3) := by decide +kernel
theorem dX7_nextToken_68 : decode cX7_nextToken 68 = .ok (.aload_n 0, 1) := by decide +kernel
theorem dX7_nextToken_69 : decode cX7_nextToken 69 = .ok (.aload_n 0, 1) := by decide +kernel
theorem dX7_nextToken_70 : decode cX7_nextToken 70 = .ok (.bipush 97, 2) := by decide +kernel
theorem dX7_nextToken_72 : decode cX7_nextToken 72 = .ok (.bipush 122, 2) := by decide +kernel
theorem dX7_nextToken_74 : decode cX7_nextToken 74 = .ok (.invokevirtual 95, 3) := by decide +kernel
theorem dX7_nextToken_77 : decode cX7_nextToken 77 = .ok (.putfield 28, 3) := by decide +kernel
theorem dX7_nextToken_80 : decode cX7_nextToken 80 = .ok (.aload_n 0, 1) := by decide +kernel
theorem dX7_nextToken_81 : decode cX7_nextToken 81 = .ok (.iconst 1, 1) := by decide +kernel
theorem dX7_nextToken_82 : decode cX7_nextToken 82 = .ok (.putfield 37, 3) := by decide +kernel
theorem dX7_nextToken_85 : decode cX7_nextToken 85 = .ok (.aload_n 0, 1) := by decide +kernel
theorem dX7_nextToken_86 : decode cX7_nextToken 86 = .ok (.aload_n 0, 1) := by decide +kernel
theorem dX7_nextToken_87 : decode cX7_nextToken 87 = .ok (.getfield 28, 3) := by decide +kernel
theorem dX7_nextToken_90 : decode cX7_nextToken 90 = .ok (.aload_n 0, 1) := by decide +kernel
theorem dX7_nextToken_91 : decode cX7_nextToken 91 = .ok (.getfield 56, 3) := by decide +kernel
theorem dX7_nextToken_94 : decode cX7_nextToken 94 = .ok (.isub, 1) := by decide +kernel
theorem dX7_nextToken_95 : decode cX7_nextToken 95 = .ok (.iconst 1, 1) := by decide +kernel
theorem dX7_nextToken_96 : decode cX7_nextToken 96 = .ok (.if_icmp .ne 10, 3) := by decide +kernel
theorem dX7_nextToken_99 : decode cX7_nextToken 99 = .ok (.aload_n 0, 1) := by decide +kernel
theorem dX7_nextToken_100 : decode cX7_nextToken 100 = .ok (.getfield 40, 3) := by decide +kernel
theorem dX7_nextToken_103 : decode cX7_nextToken 103 = .ok (.goto 4, 3) := by decide +kernel
theorem dX7_nextToken_106 : decode cX7_nextToken 106 = .ok (.iconst 0, 1) := by decide +kernel
theorem dX7_nextToken_107 : decode cX7_nextToken 107 = .ok (.putfield 40, 3) := by decide +kernel
theorem dX7_nextToken_110 : decode cX7_nextToken 110 = .ok (.goto 84, 3) := by decide +kernel
theorem dX7_nextToken_113 : decode cX7_nextToken 113 = .ok (.aload_n 0, 1) := by decide +kernel
theorem dX7_nextToken_114 : decode cX7_nextToken 114 = .ok (.getfield 40, 3) := by decide +kernel
theorem dX7_nextToken_117 : decode cX7_nextToken 117 = .ok (.bipush 48, 2) := by decide +kernel
theorem dX7_nextToken_119 : decode cX7_nextToken 119 = .ok (.bipush 57, 2) := by decide +kernel
theorem dX7_nextToken_121 : decode cX7_nextToken 121 = .ok (.invokestatic 91, 3) := by decide +kernel
theorem dX7_nextToken_124 : decode cX7_nextToken 124 = .ok (.ifCond .ne 42, 3) := by decide +kernel
theorem dX7_nextToken_127 : decode cX7_nextToken 127 = .ok (.aload_n 0, 1) := by decide +kernel
theorem dX7_nextToken_128 : decode cX7_nextToken 128 = .ok (.aload_n 0, 1) := by decide +kernel
theorem dX7_nextToken_129 : decode cX7_nextToken 129 = .ok (.bipush 48, 2) := by decide +kernel
theorem dX7_nextToken_131 : decode cX7_nextToken 131 = .ok (.bipush 57, 2) := by decide +kernel
theorem dX7_nextToken_133 : decode cX7_nextToken 133 = .ok (.invokevirtual 95, 3) := by decide +kernel
theorem dX7_nextToken_136 : decode cX7_nextToken 136 = .ok (.putfield 28, 3) := by decide +kernel
theorem dX7_nextToken_139 : decode cX7_nextToken 139 = .ok (.aload_n 0, 1) := by decide +kernel
theorem dX7_nextToken_140 : decode cX7_nextToken 140 = .ok (.aload_n 0, 1) := by decide +kernel
theorem dX7_nextToken_141 : decode cX7_nextToken 141 = .ok (.invokevirtual 103, 3) := by decide +kernel
theorem dX7_nextToken_144 : decode cX7_nextToken 144 = .ok (.putfield 40, 3) := by decide +kernel
theorem dX7_nextToken_147 : decode cX7_nextToken 147 = .ok (.aload_n 0, 1) := by decide +kernel
theorem dX7_nextToken_148 : decode cX7_nextToken 148 = .ok (.aload_n 0, 1) := by decide +kernel
theorem dX7_nextToken_149 : decode cX7_nextToken 149 = .ok (.getfield 40, 3) := by decide +kernel
theorem dX7_nextToken_152 : decode cX7_nextToken 152 = .ok (.ifCond .ge 7, 3) := by decide +kernel
theorem dX7_nextToken_155 : decode cX7_nextToken 155 = .ok (.iconst 4, 1) := by decide +kernel
theorem dX7_nextToken_156 : decode cX7_nextToken 156 = .ok (.goto 4, 3) := by decide +kernel
theorem dX7_nextToken_159 : decode cX7_nextToken 159 = .ok (.iconst 2, 1) := by decide +kernel
theorem dX7_nextToken_160 : decode cX7_nextToken 160 = .ok (.putfield 37, 3) := by decide +kernel
theorem dX7_nextToken_163 : decode cX7_nextToken 163 = .ok (.goto 31, 3) := by decide +kernel
theorem dX7_nextToken_166 : decode cX7_nextToken 166 = .ok (.aload_n 0, 1) := by decide +kernel
theorem dX7_nextToken_167 : decode cX7_nextToken 167 = .ok (.dup, 1) := by decide +kernel
theorem dX7_nextToken_168 : decode cX7_nextToken 168 = .ok (.getfield 28, 3) := by decide +kernel
theorem dX7_nextToken_171 : decode cX7_nextToken 171 = .ok (.iconst 1, 1) := by decide +kernel
theorem dX7_nextToken_172 : decode cX7_nextToken 172 = .ok (.iadd, 1) := by decide +kernel
theorem dX7_nextToken_173 : decode cX7_nextToken 173 = .ok (.putfield 28, 3) := by decide +kernel
theorem dX7_nextToken_176 : decode cX7_nextToken 176 = .ok (.aload_n 0, 1) := by decide +kernel
theorem dX7_nextToken_177 : decode cX7_nextToken 177 = .ok (.aload_n 0, 1) := by decide +kernel
theorem dX7_nextToken_178 : decode cX7_nextToken 178 = .ok (.getfield 40, 3) := by decide +kernel
theorem dX7_nextToken_181 : decode cX7_nextToken 181 = .ok (.bipush 59, 2) := by decide +kernel
theorem dX7_nextToken_183 : decode cX7_nextToken 183 = .ok (.if_icmp .ne 7, 3) := by decide +kernel
theorem dX7_nextToken_186 : decode cX7_nextToken 186 = .ok (.iconst 3, 1) := by decide +kernel
theorem dX7_nextToken_187 : decode cX7_nextToken 187 = .ok (.goto 4, 3) := by decide +kernel
theorem dX7_nextToken_190 : decode cX7_nextToken 190 = .ok (.iconst 4, 1) := by decide +kernel
theorem dX7_nextToken_191 : decode cX7_nextToken 191 = .ok (.putfield 37, 3) := by decide +kernel
theorem dX7_nextToken_194 : decode cX7_nextToken 194 = .ok (.return_, 1) := by decide +kernel
set_option maxRecDepth 20000 in
theorem ggX7_endOfRun_X10_at : GoodIn wsX7_endOfRun wsX10_at := goodIn_r _ [6] (by decide +kernel) (by decide +kernel)
set_option maxRecDepth 20000 in
theorem gX7_endOfRun_X10_at_n99 : GoodIn wsX7_endOfRun (wsX10_at) := ggX7_endOfRun_X10_at
set_option maxRecDepth 20000 in
theorem ggX7_endOfRun_X10_isOutside : GoodIn wsX7_endOfRun wsX10_isOutside := goodIn_r _ [8] (by decide +kernel) (by decide +kernel)
set_option maxRecDepth 20000 in
theorem gX7_endOfRun_X10_isOutside_n91 : GoodIn wsX7_endOfRun (wsX10_isOutside) := ggX7_endOfRun_X10_isOutside
theorem dX7_endOfRun_0 : decode cX7_endOfRun 0 = .ok (.aload_n 0, 1) := by decide +kernel
theorem dX7_endOfRun_1 : decode cX7_endOfRun 1 = .ok (.getfield 28, 3) := by decide +kernel
theorem dX7_endOfRun_4 : decode cX7_endOfRun 4 = .ok (.istore_n 3, 1) := by decide +kernel
theorem dX7_endOfRun_5 : decode cX7_endOfRun 5 = .ok (.iconst 0, 1) := by decide +kernel
theorem dX7_endOfRun_6 : decode cX7_endOfRun 6 = .ok (.istore 4, 2) := by decide +kernel
theorem dX7_endOfRun_8 : decode cX7_endOfRun 8 = .ok (.iload 4, 2) := by decide +kernel
theorem dX7_endOfRun_10 : decode cX7_endOfRun 10 = .ok (.sipush 200, 3) := by decide +kernel
theorem dX7_endOfRun_13 : decode cX7_endOfRun 13 = .ok (.if_icmp .ge 36, 3) := by decide +kernel
theorem dX7_endOfRun_16 : decode cX7_endOfRun 16 = .ok (.iload_n 3, 1) := by decide +kernel
theorem dX7_endOfRun_17 : decode cX7_endOfRun 17 = .ok (.aload_n 0, 1) := by decide +kernel
theorem dX7_endOfRun_18 : decode cX7_endOfRun 18 = .ok (.getfield 15, 3) := by decide +kernel
theorem dX7_endOfRun_21 : decode cX7_endOfRun 21 = .ok (.if_icmp .ge 28, 3) := by decide +kernel
theorem dX7_endOfRun_24 : decode cX7_endOfRun 24 = .ok (.aload_n 0, 1) := by decide +kernel
theorem dX7_endOfRun_25 : decode cX7_endOfRun 25 = .ok (.getfield 11, 3) := by decide +kernel
theorem dX7_endOfRun_28 : decode cX7_endOfRun 28 = .ok (.iload_n 3, 1) := by decide +kernel
theorem dX7_endOfRun_29 : decode cX7_endOfRun 29 = .ok (.invokestatic 99, 3) := by decide +kernel
theorem dX7_endOfRun_32 : decode cX7_endOfRun 32 = .ok (.iload_n 1, 1) := by decide +kernel
theorem dX7_endOfRun_33 : decode cX7_endOfRun 33 = .ok (.iload_n 2, 1) := by decide +kernel
theorem dX7_endOfRun_34 : decode cX7_endOfRun 34 = .ok (.invokestatic 91, 3) := by decide +kernel
theorem dX7_endOfRun_37 : decode cX7_endOfRun 37 = .ok (.ifCond .ne 12, 3) := by decide +kernel
theorem dX7_endOfRun_40 : decode cX7_endOfRun 40 = .ok (.iinc 3 1, 3) := by decide +kernel
theorem dX7_endOfRun_43 : decode cX7_endOfRun 43 = .ok (.iinc 4 1, 3) := by decide +kernel
theorem dX7_endOfRun_46 : decode cX7_endOfRun 46 = .ok (.goto (-38), 3) := by decide +kernel
theorem dX7_endOfRun_49 : decode cX7_endOfRun 49 = .ok (.iload_n 3, 1) := by decide +kernel
theorem dX7_endOfRun_50 : decode cX7_endOfRun 50 = .ok (.ireturn, 1) := by decide +kernel
set_option maxRecDepth 20000 in
theorem ggX7_valueOfDigits_X10_at : GoodIn wsX7_valueOfDigits wsX10_at := goodIn_r _ [6] (by decide +kernel) (by decide +kernel)
set_option maxRecDepth 20000 in
theorem gX7_valueOfDigits_X10_at_n99 : GoodIn wsX7_valueOfDigits (wsX10_at) := ggX7_valueOfDigits_X10_at
theorem dX7_valueOfDigits_0 : decode cX7_valueOfDigits 0 = .ok (.aload_n 0, 1) := by decide +kernel
theorem dX7_valueOfDigits_1 : decode cX7_valueOfDigits 1 = .ok (.getfield 11, 3) := by decide +kernel
theorem dX7_valueOfDigits_4 : decode cX7_valueOfDigits 4 = .ok (.aload_n 0, 1) := by decide +kernel
theorem dX7_valueOfDigits_5 : decode cX7_valueOfDigits 5 = .ok (.getfield 56, 3) := by decide +kernel
theorem dX7_valueOfDigits_8 : decode cX7_valueOfDigits 8 = .ok (.invokestatic 99, 3) := by decide +kernel
theorem dX7_valueOfDigits_11 : decode cX7_valueOfDigits 11 = .ok (.bipush 48, 2) := by decide +kernel
theorem dX7_valueOfDigits_13 : decode cX7_valueOfDigits 13 = .ok (.isub, 1) := by decide +kernel
theorem dX7_valueOfDigits_14 : decode cX7_valueOfDigits 14 = .ok (.istore_n 1, 1) := by decide +kernel
theorem dX7_valueOfDigits_15 : decode cX7_valueOfDigits 15 = .ok (.aload_n 0, 1) := by decide +kernel
theorem dX7_valueOfDigits_16 : decode cX7_valueOfDigits 16 = .ok (.getfield 28, 3) := by decide +kernel
theorem dX7_valueOfDigits_19 : decode cX7_valueOfDigits 19 = .ok (.aload_n 0, 1) := by decide +kernel
theorem dX7_valueOfDigits_20 : decode cX7_valueOfDigits 20 = .ok (.getfield 56, 3) := by decide +kernel
theorem dX7_valueOfDigits_23 : decode cX7_valueOfDigits 23 = .ok (.isub, 1) := by decide +kernel
theorem dX7_valueOfDigits_24 : decode cX7_valueOfDigits 24 = .ok (.iconst 1, 1) := by decide +kernel
theorem dX7_valueOfDigits_25 : decode cX7_valueOfDigits 25 = .ok (.if_icmp .ne 5, 3) := by decide +kernel
theorem dX7_valueOfDigits_28 : decode cX7_valueOfDigits 28 = .ok (.iload_n 1, 1) := by decide +kernel
theorem dX7_valueOfDigits_29 : decode cX7_valueOfDigits 29 = .ok (.ireturn, 1) := by decide +kernel
theorem dX7_valueOfDigits_30 : decode cX7_valueOfDigits 30 = .ok (.aload_n 0, 1) := by decide +kernel
theorem dX7_valueOfDigits_31 : decode cX7_valueOfDigits 31 = .ok (.getfield 28, 3) := by decide +kernel
theorem dX7_valueOfDigits_34 : decode cX7_valueOfDigits 34 = .ok (.aload_n 0, 1) := by decide +kernel
theorem dX7_valueOfDigits_35 : decode cX7_valueOfDigits 35 = .ok (.getfield 56, 3) := by decide +kernel
theorem dX7_valueOfDigits_38 : decode cX7_valueOfDigits 38 = .ok (.isub, 1) := by decide +kernel
theorem dX7_valueOfDigits_39 : decode cX7_valueOfDigits 39 = .ok (.iconst 2, 1) := by decide +kernel
theorem dX7_valueOfDigits_40 : decode cX7_valueOfDigits 40 = .ok (.if_icmp .ne 31, 3) := by decide +kernel
theorem dX7_valueOfDigits_43 : decode cX7_valueOfDigits 43 = .ok (.iload_n 1, 1) := by decide +kernel
theorem dX7_valueOfDigits_44 : decode cX7_valueOfDigits 44 = .ok (.ifCond .le 27, 3) := by decide +kernel
theorem dX7_valueOfDigits_47 : decode cX7_valueOfDigits 47 = .ok (.iload_n 1, 1) := by decide +kernel
theorem dX7_valueOfDigits_48 : decode cX7_valueOfDigits 48 = .ok (.bipush 10, 2) := by decide +kernel
theorem dX7_valueOfDigits_50 : decode cX7_valueOfDigits 50 = .ok (.imul, 1) := by decide +kernel
theorem dX7_valueOfDigits_51 : decode cX7_valueOfDigits 51 = .ok (.aload_n 0, 1) := by decide +kernel
theorem dX7_valueOfDigits_52 : decode cX7_valueOfDigits 52 = .ok (.getfield 11, 3) := by decide +kernel
theorem dX7_valueOfDigits_55 : decode cX7_valueOfDigits 55 = .ok (.aload_n 0, 1) := by decide +kernel
theorem dX7_valueOfDigits_56 : decode cX7_valueOfDigits 56 = .ok (.getfield 56, 3) := by decide +kernel
theorem dX7_valueOfDigits_59 : decode cX7_valueOfDigits 59 = .ok (.iconst 1, 1) := by decide +kernel
theorem dX7_valueOfDigits_60 : decode cX7_valueOfDigits 60 = .ok (.iadd, 1) := by decide +kernel
theorem dX7_valueOfDigits_61 : decode cX7_valueOfDigits 61 = .ok (.invokestatic 99, 3) := by decide +kernel
theorem dX7_valueOfDigits_64 : decode cX7_valueOfDigits 64 = .ok (.iadd, 1) := by decide +kernel
theorem dX7_valueOfDigits_65 : decode cX7_valueOfDigits 65 = .ok (.bipush 48, 2) := by decide +kernel
theorem dX7_valueOfDigits_67 : decode cX7_valueOfDigits 67 = .ok (.isub, 1) := by decide +kernel
theorem dX7_valueOfDigits_68 : decode cX7_valueOfDigits 68 = .ok (.goto 4, 3) := by decide +kernel
theorem dX7_valueOfDigits_71 : decode cX7_valueOfDigits 71 = .ok (.iconst (-1), 1) := by decide +kernel
theorem dX7_valueOfDigits_72 : decode cX7_valueOfDigits 72 = .ok (.ireturn, 1) := by decide +kernel
set_option maxRecDepth 20000 in
theorem ggX8_init_X5_init : GoodIn wsX8_init wsX5_init := goodIn_r _ [13, 14, 2, 3, 8, 15, 16] (by decide +kernel) (by decide +kernel)
set_option maxRecDepth 20000 in
theorem gX8_init_X5_init_n11 : GoodIn wsX8_init (wsX5_init) := ggX8_init_X5_init
theorem dX8_init_0 : decode cX8_init 0 = .ok (.aload_n 0, 1) := by decide +kernel
theorem dX8_init_1 : decode cX8_init 1 = .ok (.invokespecial 3, 3) := by decide +kernel
theorem dX8_init_4 : decode cX8_init 4 = .ok (.aload_n 0, 1) := by decide +kernel
theorem dX8_init_5 : decode cX8_init 5 = .ok (.new 9, 3) := by decide +kernel
theorem dX8_init_8 : decode cX8_init 8 = .ok (.dup, 1) := by decide +kernel
theorem dX8_init_9 : decode cX8_init 9 = .ok (.invokespecial 11, 3) := by decide +kernel
theorem dX8_init_12 : decode cX8_init 12 = .ok (.putfield 12, 3) := by decide +kernel
theorem dX8_init_15 : decode cX8_init 15 = .ok (.aload_n 0, 1) := by decide +kernel
theorem dX8_init_16 : decode cX8_init 16 = .ok (.bipush 10, 2) := by decide +kernel
theorem dX8_init_18 : decode cX8_init 18 = .ok (.newarray .int, 2) := by decide +kernel
theorem dX8_init_20 : decode cX8_init 20 = .ok (.putfield 18, 3) := by decide +kernel
theorem dX8_init_23 : decode cX8_init 23 = .ok (.aload_n 0, 1) := by decide +kernel
theorem dX8_init_24 : decode cX8_init 24 = .ok (.aload_n 1, 1) := by decide +kernel
theorem dX8_init_25 : decode cX8_init 25 = .ok (.putfield 22, 3) := by decide +kernel
theorem dX8_init_28 : decode cX8_init 28 = .ok (.aload_n 0, 1) := by decide +kernel
theorem dX8_init_29 : decode cX8_init 29 = .ok (.aload_n 2, 1) := by decide +kernel
theorem dX8_init_30 : decode cX8_init 30 = .ok (.putfield 26, 3) := by decide +kernel
theorem dX8_init_33 : decode cX8_init 33 = .ok (.return_, 1) := by decide +kernel
set_option maxRecDepth 20000 in
theorem ggX8_holdOf_X8_weighHolds : GoodIn wsX8_holdOf wsX8_weighHolds := goodIn_r _ [7, 2, 8, 9, 10, 11, 12, 13, 14, 15, 16, 17, 18, 19, 20, 21, 22, 23, 24, 25, 26, 27, 28, 29, 30, 31, 32, 33, 34, 35, 36, 37, 38, 39, 40, 41, 42, 43, 44, 45, 46, 47, 48, 49, 50, 51, 52] (by decide +kernel) (by decide +kernel)
set_option maxRecDepth 20000 in
theorem gX8_holdOf_X8_weighHolds : GoodIn wsX8_holdOf (wsV RX8 29 RX8 yX8_weighHolds wsX8_weighHolds) := goodIn_app (goodIn_of _ (by decide +kernel)) ggX8_holdOf_X8_weighHolds
set_option maxRecDepth 20000 in
theorem ggX8_holdOf_X5_get : GoodIn wsX8_holdOf wsX5_get := goodIn_r _ [19, 20, 21, 10, 22, 52] (by decide +kernel) (by decide +kernel)
set_option maxRecDepth 20000 in
theorem gX8_holdOf_X5_get_n33 : GoodIn wsX8_holdOf (wsX5_get) := ggX8_holdOf_X5_get
set_option maxRecDepth 20000 in
theorem ggX8_holdOf_X10_at : GoodIn wsX8_holdOf wsX10_at := goodIn_r _ [22] (by decide +kernel) (by decide +kernel)
set_option maxRecDepth 20000 in
theorem gX8_holdOf_X10_at_n37 : GoodIn wsX8_holdOf (wsX10_at) := ggX8_holdOf_X10_at
theorem dX8_holdOf_0 : decode cX8_holdOf 0 = .ok (.aload_n 0, 1) := by decide +kernel
theorem dX8_holdOf_1 : decode cX8_holdOf 1 = .ok (.aload_n 0, 1) := by decide +kernel
theorem dX8_holdOf_2 : decode cX8_holdOf 2 = .ok (.getfield 26, 3) := by decide +kernel
theorem dX8_holdOf_5 : decode cX8_holdOf 5 = .ok (.invokevirtual 29, 3) := by decide +kernel
theorem dX8_holdOf_8 : decode cX8_holdOf 8 = .ok (.aload_n 0, 1) := by decide +kernel
theorem dX8_holdOf_9 : decode cX8_holdOf 9 = .ok (.getfield 18, 3) := by decide +kernel
theorem dX8_holdOf_12 : decode cX8_holdOf 12 = .ok (.aload_n 0, 1) := by decide +kernel
theorem dX8_holdOf_13 : decode cX8_holdOf 13 = .ok (.getfield 26, 3) := by decide +kernel
theorem dX8_holdOf_16 : decode cX8_holdOf 16 = .ok (.iconst 0, 1) := by decide +kernel
theorem dX8_holdOf_17 : decode cX8_holdOf 17 = .ok (.iload_n 1, 1) := by decide +kernel
theorem dX8_holdOf_18 : decode cX8_holdOf 18 = .ok (.invokevirtual 33, 3) := by decide +kernel
theorem dX8_holdOf_21 : decode cX8_holdOf 21 = .ok (.invokestatic 37, 3) := by decide +kernel
theorem dX8_holdOf_24 : decode cX8_holdOf 24 = .ok (.ireturn, 1) := by decide +kernel
set_option maxRecDepth 20000 in
theorem ggX8_weighHolds_X10_fill : GoodIn wsX8_weighHolds wsX10_fill := goodIn_r _ [5] (by decide +kernel) (by decide +kernel)
set_option maxRecDepth 20000 in
theorem gX8_weighHolds_X10_fill_n41 : GoodIn wsX8_weighHolds (wsX10_fill) := ggX8_weighHolds_X10_fill
set_option maxRecDepth 20000 in
theorem ggX8_weighHolds_X5_lies : GoodIn wsX8_weighHolds wsX5_lies := goodIn_r _ [9, 10, 11, 12, 7, 13, 14, 15, 4, 16, 46] (by decide +kernel) (by decide +kernel)
set_option maxRecDepth 20000 in
theorem gX8_weighHolds_X5_lies_n51 : GoodIn wsX8_weighHolds (wsX5_lies) := ggX8_weighHolds_X5_lies
set_option maxRecDepth 20000 in
theorem ggX8_weighHolds_X5_get : GoodIn wsX8_weighHolds wsX5_get := goodIn_r _ [13, 14, 15, 4, 16, 46] (by decide +kernel) (by decide +kernel)
set_option maxRecDepth 20000 in
theorem gX8_weighHolds_X5_get_n33 : GoodIn wsX8_weighHolds (wsX5_get) := ggX8_weighHolds_X5_get
set_option maxRecDepth 20000 in
theorem ggX8_weighHolds_X10_at : GoodIn wsX8_weighHolds wsX10_at := goodIn_r _ [16] (by decide +kernel) (by decide +kernel)
set_option maxRecDepth 20000 in
theorem gX8_weighHolds_X10_at_n37 : GoodIn wsX8_weighHolds (wsX10_at) := ggX8_weighHolds_X10_at
set_option maxRecDepth 20000 in
theorem ggX8_weighHolds_X9_strengthOf : GoodIn wsX8_weighHolds wsX9_strengthOf := goodIn_r _ [20, 11, 7, 12, 13, 14, 15, 4, 16, 21, 22, 23, 18, 24, 25, 26, 27, 28, 29, 46, 36, 37, 38, 39, 40, 41, 42, 43, 44, 45] (by decide +kernel) (by decide +kernel)
set_option maxRecDepth 20000 in
theorem gX8_weighHolds_X9_strengthOf_n55 : GoodIn wsX8_weighHolds (wsX9_strengthOf) := ggX8_weighHolds_X9_strengthOf
set_option maxRecDepth 20000 in
theorem ggX8_weighHolds_X10_put : GoodIn wsX8_weighHolds wsX10_put := goodIn_r _ [31] (by decide +kernel) (by decide +kernel)
set_option maxRecDepth 20000 in
theorem gX8_weighHolds_X10_put_n59 : GoodIn wsX8_weighHolds (wsX10_put) := ggX8_weighHolds_X10_put
theorem dX8_weighHolds_0 : decode cX8_weighHolds 0 = .ok (.aload_n 0, 1) := by decide +kernel
theorem dX8_weighHolds_1 : decode cX8_weighHolds 1 = .ok (.getfield 18, 3) := by decide +kernel
theorem dX8_weighHolds_4 : decode cX8_weighHolds 4 = .ok (.iconst 0, 1) := by decide +kernel
theorem dX8_weighHolds_5 : decode cX8_weighHolds 5 = .ok (.invokestatic 41, 3) := by decide +kernel
theorem dX8_weighHolds_8 : decode cX8_weighHolds 8 = .ok (.iconst 0, 1) := by decide +kernel
theorem dX8_weighHolds_9 : decode cX8_weighHolds 9 = .ok (.istore_n 2, 1) := by decide +kernel
theorem dX8_weighHolds_10 : decode cX8_weighHolds 10 = .ok (.iload_n 2, 1) := by decide +kernel
theorem dX8_weighHolds_11 : decode cX8_weighHolds 11 = .ok (.aload_n 0, 1) := by decide +kernel
theorem dX8_weighHolds_12 : decode cX8_weighHolds 12 = .ok (.getfield 22, 3) := by decide +kernel
theorem dX8_weighHolds_15 : decode cX8_weighHolds 15 = .ok (.getfield 45, 3) := by decide +kernel
theorem dX8_weighHolds_18 : decode cX8_weighHolds 18 = .ok (.if_icmp .ge 50, 3) := by decide +kernel
theorem dX8_weighHolds_21 : decode cX8_weighHolds 21 = .ok (.aload_n 1, 1) := by decide +kernel
theorem dX8_weighHolds_22 : decode cX8_weighHolds 22 = .ok (.iload_n 2, 1) := by decide +kernel
theorem dX8_weighHolds_23 : decode cX8_weighHolds 23 = .ok (.invokevirtual 51, 3) := by decide +kernel
theorem dX8_weighHolds_26 : decode cX8_weighHolds 26 = .ok (.ifCond .eq 36, 3) := by decide +kernel
theorem dX8_weighHolds_29 : decode cX8_weighHolds 29 = .ok (.aload_n 1, 1) := by decide +kernel
theorem dX8_weighHolds_30 : decode cX8_weighHolds 30 = .ok (.iconst 0, 1) := by decide +kernel
theorem dX8_weighHolds_31 : decode cX8_weighHolds 31 = .ok (.iload_n 2, 1) := by decide +kernel
theorem dX8_weighHolds_32 : decode cX8_weighHolds 32 = .ok (.invokevirtual 33, 3) := by decide +kernel
theorem dX8_weighHolds_35 : decode cX8_weighHolds 35 = .ok (.istore_n 3, 1) := by decide +kernel
theorem dX8_weighHolds_36 : decode cX8_weighHolds 36 = .ok (.aload_n 0, 1) := by decide +kernel
theorem dX8_weighHolds_37 : decode cX8_weighHolds 37 = .ok (.getfield 18, 3) := by decide +kernel
theorem dX8_weighHolds_40 : decode cX8_weighHolds 40 = .ok (.iload_n 3, 1) := by decide +kernel
theorem dX8_weighHolds_41 : decode cX8_weighHolds 41 = .ok (.aload_n 0, 1) := by decide +kernel
theorem dX8_weighHolds_42 : decode cX8_weighHolds 42 = .ok (.getfield 18, 3) := by decide +kernel
theorem dX8_weighHolds_45 : decode cX8_weighHolds 45 = .ok (.iload_n 3, 1) := by decide +kernel
theorem dX8_weighHolds_46 : decode cX8_weighHolds 46 = .ok (.invokestatic 37, 3) := by decide +kernel
theorem dX8_weighHolds_49 : decode cX8_weighHolds 49 = .ok (.aload_n 0, 1) := by decide +kernel
theorem dX8_weighHolds_50 : decode cX8_weighHolds 50 = .ok (.getfield 22, 3) := by decide +kernel
theorem dX8_weighHolds_53 : decode cX8_weighHolds 53 = .ok (.aload_n 1, 1) := by decide +kernel
theorem dX8_weighHolds_54 : decode cX8_weighHolds 54 = .ok (.iload_n 2, 1) := by decide +kernel
theorem dX8_weighHolds_55 : decode cX8_weighHolds 55 = .ok (.invokevirtual 55, 3) := by decide +kernel
theorem dX8_weighHolds_58 : decode cX8_weighHolds 58 = .ok (.iadd, 1) := by decide +kernel
theorem dX8_weighHolds_59 : decode cX8_weighHolds 59 = .ok (.invokestatic 59, 3) := by decide +kernel
theorem dX8_weighHolds_62 : decode cX8_weighHolds 62 = .ok (.iinc 2 1, 3) := by decide +kernel
theorem dX8_weighHolds_65 : decode cX8_weighHolds 65 = .ok (.goto (-55), 3) := by decide +kernel
theorem dX8_weighHolds_68 : decode cX8_weighHolds 68 = .ok (.return_, 1) := by decide +kernel
set_option maxRecDepth 20000 in
theorem ggX8_blowsOver_X8_weighHolds : GoodIn wsX8_blowsOver wsX8_weighHolds := goodIn_r _ [7, 2, 1, 8, 9, 10, 11, 12, 13, 14, 15, 16, 17, 18, 19, 20, 21, 22, 23, 24, 25, 26, 27, 28, 29, 30, 31, 32, 33, 34, 35, 36, 42, 43, 44, 45, 46, 47, 48, 49, 50, 51, 52, 53, 54, 55, 56] (by decide +kernel) (by decide +kernel)
set_option maxRecDepth 20000 in
theorem gX8_blowsOver_X8_weighHolds : GoodIn wsX8_blowsOver (wsV RX8 29 RX8 yX8_weighHolds wsX8_weighHolds) := goodIn_app (goodIn_of _ (by decide +kernel)) ggX8_blowsOver_X8_weighHolds
set_option maxRecDepth 20000 in
theorem ggX8_blowsOver_X5_get : GoodIn wsX8_blowsOver wsX5_get := goodIn_r _ [18, 19, 20, 9, 21, 56] (by decide +kernel) (by decide +kernel)
set_option maxRecDepth 20000 in
theorem gX8_blowsOver_X5_get_n33 : GoodIn wsX8_blowsOver (wsX5_get) := ggX8_blowsOver_X5_get
set_option maxRecDepth 20000 in
theorem ggX8_blowsOver_X5_lies : GoodIn wsX8_blowsOver wsX5_lies := goodIn_r _ [14, 15, 16, 17, 12, 18, 19, 20, 9, 21, 56] (by decide +kernel) (by decide +kernel)
set_option maxRecDepth 20000 in
theorem gX8_blowsOver_X5_lies_n51 : GoodIn wsX8_blowsOver (wsX5_lies) := ggX8_blowsOver_X5_lies
set_option maxRecDepth 20000 in
theorem ggX8_blowsOver_X10_at : GoodIn wsX8_blowsOver wsX10_at := goodIn_r _ [21] (by decide +kernel) (by decide +kernel)
set_option maxRecDepth 20000 in
theorem gX8_blowsOver_X10_at_n37 : GoodIn wsX8_blowsOver (wsX10_at) := ggX8_blowsOver_X10_at
set_option maxRecDepth 20000 in
theorem ggX8_blowsOver_X10_isOutside : GoodIn wsX8_blowsOver wsX10_isOutside := goodIn_r _ [38] (by decide +kernel) (by decide +kernel)
set_option maxRecDepth 20000 in
theorem gX8_blowsOver_X10_isOutside_n63 : GoodIn wsX8_blowsOver (wsX10_isOutside) := ggX8_blowsOver_X10_isOutside
set_option maxRecDepth 20000 in
theorem ggX8_blowsOver_X5_set : GoodIn wsX8_blowsOver wsX5_set := goodIn_r _ [41, 19, 35, 9, 36, 56] (by decide +kernel) (by decide +kernel)
set_option maxRecDepth 20000 in
theorem gX8_blowsOver_X5_set_n67 : GoodIn wsX8_blowsOver (wsX5_set) := ggX8_blowsOver_X5_set
theorem dX8_blowsOver_0 : decode cX8_blowsOver 0 = .ok (.aload_n 0, 1) := by decide +kernel
theorem dX8_blowsOver_1 : decode cX8_blowsOver 1 = .ok (.aload_n 1, 1) := by decide +kernel
theorem dX8_blowsOver_2 : decode cX8_blowsOver 2 = .ok (.invokevirtual 29, 3) := by decide +kernel
theorem dX8_blowsOver_5 : decode cX8_blowsOver 5 = .ok (.iconst 0, 1) := by decide +kernel
theorem dX8_blowsOver_6 : decode cX8_blowsOver 6 = .ok (.istore 4, 2) := by decide +kernel
theorem dX8_blowsOver_8 : decode cX8_blowsOver 8 = .ok (.iconst 0, 1) := by decide +kernel
theorem dX8_blowsOver_9 : decode cX8_blowsOver 9 = .ok (.istore 5, 2) := by decide +kernel
theorem dX8_blowsOver_11 : decode cX8_blowsOver 11 = .ok (.iload 5, 2) := by decide +kernel
theorem dX8_blowsOver_13 : decode cX8_blowsOver 13 = .ok (.aload_n 0, 1) := by decide +kernel
theorem dX8_blowsOver_14 : decode cX8_blowsOver 14 = .ok (.getfield 22, 3) := by decide +kernel
theorem dX8_blowsOver_17 : decode cX8_blowsOver 17 = .ok (.getfield 45, 3) := by decide +kernel
theorem dX8_blowsOver_20 : decode cX8_blowsOver 20 = .ok (.if_icmp .ge 92, 3) := by decide +kernel
theorem dX8_blowsOver_23 : decode cX8_blowsOver 23 = .ok (.aload_n 1, 1) := by decide +kernel
theorem dX8_blowsOver_24 : decode cX8_blowsOver 24 = .ok (.iconst 0, 1) := by decide +kernel
theorem dX8_blowsOver_25 : decode cX8_blowsOver 25 = .ok (.iload 5, 2) := by decide +kernel
theorem dX8_blowsOver_27 : decode cX8_blowsOver 27 = .ok (.invokevirtual 33, 3) := by decide +kernel
theorem dX8_blowsOver_30 : decode cX8_blowsOver 30 = .ok (.istore 6, 2) := by decide +kernel
theorem dX8_blowsOver_32 : decode cX8_blowsOver 32 = .ok (.aload_n 1, 1) := by decide +kernel
theorem dX8_blowsOver_33 : decode cX8_blowsOver 33 = .ok (.iload 5, 2) := by decide +kernel
theorem dX8_blowsOver_35 : decode cX8_blowsOver 35 = .ok (.invokevirtual 51, 3) := by decide +kernel
theorem dX8_blowsOver_38 : decode cX8_blowsOver 38 = .ok (.ifCond .eq 68, 3) := by decide +kernel
theorem dX8_blowsOver_41 : decode cX8_blowsOver 41 = .ok (.aload_n 0, 1) := by decide +kernel
theorem dX8_blowsOver_42 : decode cX8_blowsOver 42 = .ok (.getfield 18, 3) := by decide +kernel
theorem dX8_blowsOver_45 : decode cX8_blowsOver 45 = .ok (.iload 6, 2) := by decide +kernel
theorem dX8_blowsOver_47 : decode cX8_blowsOver 47 = .ok (.invokestatic 37, 3) := by decide +kernel
theorem dX8_blowsOver_50 : decode cX8_blowsOver 50 = .ok (.iload_n 2, 1) := by decide +kernel
theorem dX8_blowsOver_51 : decode cX8_blowsOver 51 = .ok (.if_icmp .ge 55, 3) := by decide +kernel
theorem dX8_blowsOver_54 : decode cX8_blowsOver 54 = .ok (.iload_n 3, 1) := by decide +kernel
theorem dX8_blowsOver_55 : decode cX8_blowsOver 55 = .ok (.ifCond .ne 10, 3) := by decide +kernel
theorem dX8_blowsOver_58 : decode cX8_blowsOver 58 = .ok (.iload 6, 2) := by decide +kernel
theorem dX8_blowsOver_60 : decode cX8_blowsOver 60 = .ok (.iconst 1, 1) := by decide +kernel
theorem dX8_blowsOver_61 : decode cX8_blowsOver 61 = .ok (.isub, 1) := by decide +kernel
theorem dX8_blowsOver_62 : decode cX8_blowsOver 62 = .ok (.goto 7, 3) := by decide +kernel
theorem dX8_blowsOver_65 : decode cX8_blowsOver 65 = .ok (.iload 6, 2) := by decide +kernel
theorem dX8_blowsOver_67 : decode cX8_blowsOver 67 = .ok (.iconst 1, 1) := by decide +kernel
theorem dX8_blowsOver_68 : decode cX8_blowsOver 68 = .ok (.iadd, 1) := by decide +kernel
theorem dX8_blowsOver_69 : decode cX8_blowsOver 69 = .ok (.istore 7, 2) := by decide +kernel
theorem dX8_blowsOver_71 : decode cX8_blowsOver 71 = .ok (.iload 7, 2) := by decide +kernel
theorem dX8_blowsOver_73 : decode cX8_blowsOver 73 = .ok (.iconst 0, 1) := by decide +kernel
theorem dX8_blowsOver_74 : decode cX8_blowsOver 74 = .ok (.bipush 9, 2) := by decide +kernel
theorem dX8_blowsOver_76 : decode cX8_blowsOver 76 = .ok (.invokestatic 63, 3) := by decide +kernel
theorem dX8_blowsOver_79 : decode cX8_blowsOver 79 = .ok (.ifCond .eq 18, 3) := by decide +kernel
theorem dX8_blowsOver_82 : decode cX8_blowsOver 82 = .ok (.aload_n 1, 1) := by decide +kernel
theorem dX8_blowsOver_83 : decode cX8_blowsOver 83 = .ok (.bipush 24, 2) := by decide +kernel
theorem dX8_blowsOver_85 : decode cX8_blowsOver 85 = .ok (.iload 5, 2) := by decide +kernel
theorem dX8_blowsOver_87 : decode cX8_blowsOver 87 = .ok (.iconst 2, 1) := by decide +kernel
theorem dX8_blowsOver_88 : decode cX8_blowsOver 88 = .ok (.invokevirtual 67, 3) := by decide +kernel
theorem dX8_blowsOver_91 : decode cX8_blowsOver 91 = .ok (.iinc 4 1, 3) := by decide +kernel
theorem dX8_blowsOver_94 : decode cX8_blowsOver 94 = .ok (.goto 12, 3) := by decide +kernel
theorem dX8_blowsOver_97 : decode cX8_blowsOver 97 = .ok (.aload_n 1, 1) := by decide +kernel
theorem dX8_blowsOver_98 : decode cX8_blowsOver 98 = .ok (.iconst 0, 1) := by decide +kernel
theorem dX8_blowsOver_99 : decode cX8_blowsOver 99 = .ok (.iload 5, 2) := by decide +kernel
theorem dX8_blowsOver_101 : decode cX8_blowsOver 101 = .ok (.iload 7, 2) := by decide +kernel
theorem dX8_blowsOver_103 : decode cX8_blowsOver 103 = .ok (.invokevirtual 67, 3) := by decide +kernel
theorem dX8_blowsOver_106 : decode cX8_blowsOver 106 = .ok (.iinc 5 1, 3) := by decide +kernel
theorem dX8_blowsOver_109 : decode cX8_blowsOver 109 = .ok (.goto (-98), 3) := by decide +kernel
theorem dX8_blowsOver_112 : decode cX8_blowsOver 112 = .ok (.iload 4, 2) := by decide +kernel
theorem dX8_blowsOver_114 : decode cX8_blowsOver 114 = .ok (.ireturn, 1) := by decide +kernel
set_option maxRecDepth 20000 in
theorem ggX8_cellBehind_X5_becomes : GoodIn wsX8_cellBehind wsX5_becomes := goodIn_r _ [6, 7, 8, 9, 10, 11, 12, 13, 14, 61] (by decide +kernel) (by decide +kernel)
set_option maxRecDepth 20000 in
theorem gX8_cellBehind_X5_becomes_n71 : GoodIn wsX8_cellBehind (wsX5_becomes) := ggX8_cellBehind_X5_becomes
set_option maxRecDepth 20000 in
theorem ggX8_cellBehind_X8_blowsOver : GoodIn wsX8_cellBehind wsX8_blowsOver := goodIn_r _ [19, 20, 21, 22, 23, 24, 18, 25, 26, 9, 27, 28, 4, 29, 30, 31, 32, 33, 34, 7, 35, 36, 37, 38, 39, 40, 41, 42, 43, 44, 45, 46, 47, 48, 49, 50, 51, 52, 53, 54, 55, 56, 57, 58, 59, 60, 62, 63, 64, 65, 66, 67, 68, 69, 70, 71, 61] (by decide +kernel) (by decide +kernel)
set_option maxRecDepth 20000 in
theorem gX8_cellBehind_X8_blowsOver : GoodIn wsX8_cellBehind (wsV RX8 74 RX8 yX8_blowsOver wsX8_blowsOver) := goodIn_app (goodIn_of _ (by decide +kernel)) ggX8_cellBehind_X8_blowsOver
set_option maxRecDepth 20000 in
theorem ggX8_cellBehind_X5_lies : GoodIn wsX8_cellBehind wsX5_lies := goodIn_r _ [30, 31, 32, 33, 4, 34, 7, 35, 9, 36, 61] (by decide +kernel) (by decide +kernel)
set_option maxRecDepth 20000 in
theorem gX8_cellBehind_X5_lies_n51 : GoodIn wsX8_cellBehind (wsX5_lies) := ggX8_cellBehind_X5_lies
set_option maxRecDepth 20000 in
theorem ggX8_cellBehind_X5_get : GoodIn wsX8_cellBehind wsX5_get := goodIn_r _ [34, 7, 35, 9, 36, 61] (by decide +kernel) (by decide +kernel)
set_option maxRecDepth 20000 in
theorem gX8_cellBehind_X5_get_n33 : GoodIn wsX8_cellBehind (wsX5_get) := ggX8_cellBehind_X5_get
theorem dX8_cellBehind_0 : decode cX8_cellBehind 0 = .ok (.aload_n 0, 1) := by decide +kernel
theorem dX8_cellBehind_1 : decode cX8_cellBehind 1 = .ok (.getfield 12, 3) := by decide +kernel
theorem dX8_cellBehind_4 : decode cX8_cellBehind 4 = .ok (.aload_n 0, 1) := by decide +kernel
theorem dX8_cellBehind_5 : decode cX8_cellBehind 5 = .ok (.getfield 26, 3) := by decide +kernel
theorem dX8_cellBehind_8 : decode cX8_cellBehind 8 = .ok (.invokevirtual 71, 3) := by decide +kernel
theorem dX8_cellBehind_11 : decode cX8_cellBehind 11 = .ok (.aload_n 0, 1) := by decide +kernel
theorem dX8_cellBehind_12 : decode cX8_cellBehind 12 = .ok (.aload_n 0, 1) := by decide +kernel
theorem dX8_cellBehind_13 : decode cX8_cellBehind 13 = .ok (.getfield 12, 3) := by decide +kernel
theorem dX8_cellBehind_16 : decode cX8_cellBehind 16 = .ok (.iload_n 2, 1) := by decide +kernel
theorem dX8_cellBehind_17 : decode cX8_cellBehind 17 = .ok (.iload_n 3, 1) := by decide +kernel
theorem dX8_cellBehind_18 : decode cX8_cellBehind 18 = .ok (.invokevirtual 74, 3) := by decide +kernel
theorem dX8_cellBehind_21 : decode cX8_cellBehind 21 = .ok (.pop, 1) := by decide +kernel
theorem dX8_cellBehind_22 : decode cX8_cellBehind 22 = .ok (.aload_n 0, 1) := by decide +kernel
theorem dX8_cellBehind_23 : decode cX8_cellBehind 23 = .ok (.getfield 12, 3) := by decide +kernel
theorem dX8_cellBehind_26 : decode cX8_cellBehind 26 = .ok (.iload_n 1, 1) := by decide +kernel
theorem dX8_cellBehind_27 : decode cX8_cellBehind 27 = .ok (.invokevirtual 51, 3) := by decide +kernel
theorem dX8_cellBehind_30 : decode cX8_cellBehind 30 = .ok (.ifCond .eq 15, 3) := by decide +kernel
theorem dX8_cellBehind_33 : decode cX8_cellBehind 33 = .ok (.aload_n 0, 1) := by decide +kernel
theorem dX8_cellBehind_34 : decode cX8_cellBehind 34 = .ok (.getfield 12, 3) := by decide +kernel
theorem dX8_cellBehind_37 : decode cX8_cellBehind 37 = .ok (.iconst 0, 1) := by decide +kernel
theorem dX8_cellBehind_38 : decode cX8_cellBehind 38 = .ok (.iload_n 1, 1) := by decide +kernel
theorem dX8_cellBehind_39 : decode cX8_cellBehind 39 = .ok (.invokevirtual 33, 3) := by decide +kernel
theorem dX8_cellBehind_42 : decode cX8_cellBehind 42 = .ok (.goto 5, 3) := by decide +kernel
theorem dX8_cellBehind_45 : decode cX8_cellBehind 45 = .ok (.bipush (-9), 2) := by decide +kernel
theorem dX8_cellBehind_47 : decode cX8_cellBehind 47 = .ok (.ireturn, 1) := by decide +kernel
set_option maxRecDepth 20000 in
theorem ggX8_worstRow_X10_bit : GoodIn wsX8_worstRow wsX10_bit := goodIn_r _ [5] (by decide +kernel) (by decide +kernel)
set_option maxRecDepth 20000 in
theorem gX8_worstRow_X10_bit_n78 : GoodIn wsX8_worstRow (wsX10_bit) := ggX8_worstRow_X10_bit
set_option maxRecDepth 20000 in
theorem ggX8_worstRow_X8_sidesAt : GoodIn wsX8_worstRow wsX8_sidesAt := goodIn_r _ [9, 10, 4, 11, 12, 3, 5] (by decide +kernel) (by decide +kernel)
set_option maxRecDepth 20000 in
theorem gX8_worstRow_X8_sidesAt : GoodIn wsX8_worstRow (va_wsS RX8 82 yX8_sidesAt wsX8_sidesAt) := goodIn_app (goodIn_of _ (by decide +kernel)) ggX8_worstRow_X8_sidesAt
set_option maxRecDepth 20000 in
theorem ggX8_worstRow_X5_becomes : GoodIn wsX8_worstRow wsX5_becomes := goodIn_r _ [16, 17, 18, 4, 19, 20, 21, 22, 23, 69] (by decide +kernel) (by decide +kernel)
set_option maxRecDepth 20000 in
theorem gX8_worstRow_X5_becomes_n71 : GoodIn wsX8_worstRow (wsX5_becomes) := ggX8_worstRow_X5_becomes
set_option maxRecDepth 20000 in
theorem ggX8_worstRow_X10_has : GoodIn wsX8_worstRow wsX10_has := goodIn_r _ [11, 12, 3, 4, 5] (by decide +kernel) (by decide +kernel)
set_option maxRecDepth 20000 in
theorem gX8_worstRow_X10_has_n85 : GoodIn wsX8_worstRow (wsX10_has) := ggX8_worstRow_X10_has
set_option maxRecDepth 20000 in
theorem ggX8_worstRow_X8_blowsOver : GoodIn wsX8_worstRow wsX8_blowsOver := goodIn_r _ [27, 28, 29, 30, 31, 32, 8, 33, 34, 4, 35, 36, 14, 37, 38, 39, 40, 41, 42, 17, 43, 44, 45, 46, 47, 48, 49, 50, 51, 52, 53, 54, 55, 56, 57, 58, 59, 60, 61, 62, 63, 64, 65, 66, 67, 68, 70, 71, 72, 73, 74, 75, 76, 77, 78, 79, 69] (by decide +kernel) (by decide +kernel)
set_option maxRecDepth 20000 in
theorem gX8_worstRow_X8_blowsOver : GoodIn wsX8_worstRow (wsV RX8 74 RX8 yX8_blowsOver wsX8_blowsOver) := goodIn_app (goodIn_of _ (by decide +kernel)) ggX8_worstRow_X8_blowsOver
theorem dX8_worstRow_0 : decode cX8_worstRow 0 = .ok (.iconst 0, 1) := by decide +kernel
theorem dX8_worstRow_1 : decode cX8_worstRow 1 = .ok (.istore_n 3, 1) := by decide +kernel
theorem dX8_worstRow_2 : decode cX8_worstRow 2 = .ok (.iconst (-1), 1) := by decide +kernel
theorem dX8_worstRow_3 : decode cX8_worstRow 3 = .ok (.istore 4, 2) := by decide +kernel
theorem dX8_worstRow_5 : decode cX8_worstRow 5 = .ok (.iconst 0, 1) := by decide +kernel
theorem dX8_worstRow_6 : decode cX8_worstRow 6 = .ok (.istore 5, 2) := by decide +kernel
theorem dX8_worstRow_8 : decode cX8_worstRow 8 = .ok (.iload 5, 2) := by decide +kernel
theorem dX8_worstRow_10 : decode cX8_worstRow 10 = .ok (.iload_n 2, 1) := by decide +kernel
theorem dX8_worstRow_11 : decode cX8_worstRow 11 = .ok (.invokestatic 78, 3) := by decide +kernel
theorem dX8_worstRow_14 : decode cX8_worstRow 14 = .ok (.if_icmp .ge 89, 3) := by decide +kernel
theorem dX8_worstRow_17 : decode cX8_worstRow 17 = .ok (.iload 5, 2) := by decide +kernel
theorem dX8_worstRow_19 : decode cX8_worstRow 19 = .ok (.iload_n 2, 1) := by decide +kernel
theorem dX8_worstRow_20 : decode cX8_worstRow 20 = .ok (.invokestatic 82, 3) := by decide +kernel
theorem dX8_worstRow_23 : decode cX8_worstRow 23 = .ok (.istore 6, 2) := by decide +kernel
theorem dX8_worstRow_25 : decode cX8_worstRow 25 = .ok (.iconst 0, 1) := by decide +kernel
theorem dX8_worstRow_26 : decode cX8_worstRow 26 = .ok (.istore 7, 2) := by decide +kernel
theorem dX8_worstRow_28 : decode cX8_worstRow 28 = .ok (.aload_n 0, 1) := by decide +kernel
theorem dX8_worstRow_29 : decode cX8_worstRow 29 = .ok (.getfield 12, 3) := by decide +kernel
theorem dX8_worstRow_32 : decode cX8_worstRow 32 = .ok (.aload_n 0, 1) := by decide +kernel
theorem dX8_worstRow_33 : decode cX8_worstRow 33 = .ok (.getfield 26, 3) := by decide +kernel
theorem dX8_worstRow_36 : decode cX8_worstRow 36 = .ok (.invokevirtual 71, 3) := by decide +kernel
theorem dX8_worstRow_39 : decode cX8_worstRow 39 = .ok (.iconst 0, 1) := by decide +kernel
theorem dX8_worstRow_40 : decode cX8_worstRow 40 = .ok (.istore 8, 2) := by decide +kernel
theorem dX8_worstRow_42 : decode cX8_worstRow 42 = .ok (.iload 8, 2) := by decide +kernel
theorem dX8_worstRow_44 : decode cX8_worstRow 44 = .ok (.iload_n 2, 1) := by decide +kernel
theorem dX8_worstRow_45 : decode cX8_worstRow 45 = .ok (.if_icmp .ge 38, 3) := by decide +kernel
theorem dX8_worstRow_48 : decode cX8_worstRow 48 = .ok (.iload 7, 2) := by decide +kernel
theorem dX8_worstRow_50 : decode cX8_worstRow 50 = .ok (.aload_n 0, 1) := by decide +kernel
theorem dX8_worstRow_51 : decode cX8_worstRow 51 = .ok (.aload_n 0, 1) := by decide +kernel
theorem dX8_worstRow_52 : decode cX8_worstRow 52 = .ok (.getfield 12, 3) := by decide +kernel
theorem dX8_worstRow_55 : decode cX8_worstRow 55 = .ok (.iload_n 1, 1) := by decide +kernel
theorem dX8_worstRow_56 : decode cX8_worstRow 56 = .ok (.iload 6, 2) := by decide +kernel
theorem dX8_worstRow_58 : decode cX8_worstRow 58 = .ok (.iload 8, 2) := by decide +kernel
theorem dX8_worstRow_60 : decode cX8_worstRow 60 = .ok (.invokestatic 85, 3) := by decide +kernel
theorem dX8_worstRow_63 : decode cX8_worstRow 63 = .ok (.ifCond .eq 7, 3) := by decide +kernel
theorem dX8_worstRow_66 : decode cX8_worstRow 66 = .ok (.iconst 1, 1) := by decide +kernel
theorem dX8_worstRow_67 : decode cX8_worstRow 67 = .ok (.goto 4, 3) := by decide +kernel
theorem dX8_worstRow_70 : decode cX8_worstRow 70 = .ok (.iconst 0, 1) := by decide +kernel
theorem dX8_worstRow_71 : decode cX8_worstRow 71 = .ok (.invokevirtual 74, 3) := by decide +kernel
theorem dX8_worstRow_74 : decode cX8_worstRow 74 = .ok (.iadd, 1) := by decide +kernel
theorem dX8_worstRow_75 : decode cX8_worstRow 75 = .ok (.istore 7, 2) := by decide +kernel
theorem dX8_worstRow_77 : decode cX8_worstRow 77 = .ok (.iinc 8 1, 3) := by decide +kernel
theorem dX8_worstRow_80 : decode cX8_worstRow 80 = .ok (.goto (-38), 3) := by decide +kernel
theorem dX8_worstRow_83 : decode cX8_worstRow 83 = .ok (.iload 7, 2) := by decide +kernel
theorem dX8_worstRow_85 : decode cX8_worstRow 85 = .ok (.iload 4, 2) := by decide +kernel
theorem dX8_worstRow_87 : decode cX8_worstRow 87 = .ok (.if_icmp .le 10, 3) := by decide +kernel
theorem dX8_worstRow_90 : decode cX8_worstRow 90 = .ok (.iload 7, 2) := by decide +kernel
theorem dX8_worstRow_92 : decode cX8_worstRow 92 = .ok (.istore 4, 2) := by decide +kernel
theorem dX8_worstRow_94 : decode cX8_worstRow 94 = .ok (.iload 6, 2) := by decide +kernel
theorem dX8_worstRow_96 : decode cX8_worstRow 96 = .ok (.istore_n 3, 1) := by decide +kernel
theorem dX8_worstRow_97 : decode cX8_worstRow 97 = .ok (.iinc 5 1, 3) := by decide +kernel
theorem dX8_worstRow_100 : decode cX8_worstRow 100 = .ok (.goto (-92), 3) := by decide +kernel
theorem dX8_worstRow_103 : decode cX8_worstRow 103 = .ok (.iload 4, 2) := by decide +kernel
theorem dX8_worstRow_105 : decode cX8_worstRow 105 = .ok (.iconst 4, 1) := by decide +kernel
theorem dX8_worstRow_106 : decode cX8_worstRow 106 = .ok (.ishl, 1) := by decide +kernel
theorem dX8_worstRow_107 : decode cX8_worstRow 107 = .ok (.iload_n 3, 1) := by decide +kernel
theorem dX8_worstRow_108 : decode cX8_worstRow 108 = .ok (.ior, 1) := by decide +kernel
theorem dX8_worstRow_109 : decode cX8_worstRow 109 = .ok (.ireturn, 1) := by decide +kernel
set_option maxRecDepth 20000 in
theorem ggX8_sidesAt_X10_has : GoodIn wsX8_sidesAt wsX10_has := goodIn_r _ [3, 4, 5, 2, 6] (by decide +kernel) (by decide +kernel)
set_option maxRecDepth 20000 in
theorem gX8_sidesAt_X10_has_n85 : GoodIn wsX8_sidesAt (wsX10_has) := ggX8_sidesAt_X10_has
set_option maxRecDepth 20000 in
theorem ggX8_sidesAt_X10_bit : GoodIn wsX8_sidesAt wsX10_bit := goodIn_r _ [6] (by decide +kernel) (by decide +kernel)
set_option maxRecDepth 20000 in
theorem gX8_sidesAt_X10_bit_n78 : GoodIn wsX8_sidesAt (wsX10_bit) := ggX8_sidesAt_X10_bit
theorem dX8_sidesAt_0 : decode cX8_sidesAt 0 = .ok (.iconst 0, 1) := by decide +kernel
theorem dX8_sidesAt_1 : decode cX8_sidesAt 1 = .ok (.istore_n 2, 1) := by decide +kernel
theorem dX8_sidesAt_2 : decode cX8_sidesAt 2 = .ok (.iconst 0, 1) := by decide +kernel
theorem dX8_sidesAt_3 : decode cX8_sidesAt 3 = .ok (.istore_n 3, 1) := by decide +kernel
theorem dX8_sidesAt_4 : decode cX8_sidesAt 4 = .ok (.iload_n 3, 1) := by decide +kernel
theorem dX8_sidesAt_5 : decode cX8_sidesAt 5 = .ok (.iload_n 1, 1) := by decide +kernel
theorem dX8_sidesAt_6 : decode cX8_sidesAt 6 = .ok (.if_icmp .ge 28, 3) := by decide +kernel
theorem dX8_sidesAt_9 : decode cX8_sidesAt 9 = .ok (.iload_n 0, 1) := by decide +kernel
theorem dX8_sidesAt_10 : decode cX8_sidesAt 10 = .ok (.iload_n 1, 1) := by decide +kernel
theorem dX8_sidesAt_11 : decode cX8_sidesAt 11 = .ok (.iconst 1, 1) := by decide +kernel
theorem dX8_sidesAt_12 : decode cX8_sidesAt 12 = .ok (.isub, 1) := by decide +kernel
theorem dX8_sidesAt_13 : decode cX8_sidesAt 13 = .ok (.iload_n 3, 1) := by decide +kernel
theorem dX8_sidesAt_14 : decode cX8_sidesAt 14 = .ok (.isub, 1) := by decide +kernel
theorem dX8_sidesAt_15 : decode cX8_sidesAt 15 = .ok (.invokestatic 85, 3) := by decide +kernel
theorem dX8_sidesAt_18 : decode cX8_sidesAt 18 = .ok (.ifCond .eq 10, 3) := by decide +kernel
theorem dX8_sidesAt_21 : decode cX8_sidesAt 21 = .ok (.iload_n 2, 1) := by decide +kernel
theorem dX8_sidesAt_22 : decode cX8_sidesAt 22 = .ok (.iload_n 3, 1) := by decide +kernel
theorem dX8_sidesAt_23 : decode cX8_sidesAt 23 = .ok (.invokestatic 78, 3) := by decide +kernel
theorem dX8_sidesAt_26 : decode cX8_sidesAt 26 = .ok (.ior, 1) := by decide +kernel
theorem dX8_sidesAt_27 : decode cX8_sidesAt 27 = .ok (.istore_n 2, 1) := by decide +kernel
theorem dX8_sidesAt_28 : decode cX8_sidesAt 28 = .ok (.iinc 3 1, 3) := by decide +kernel
theorem dX8_sidesAt_31 : decode cX8_sidesAt 31 = .ok (.goto (-27), 3) := by decide +kernel
theorem dX8_sidesAt_34 : decode cX8_sidesAt 34 = .ok (.iload_n 2, 1) := by decide +kernel
theorem dX8_sidesAt_35 : decode cX8_sidesAt 35 = .ok (.ireturn, 1) := by decide +kernel
set_option maxRecDepth 20000 in
theorem ggX8_fewestLinks_X5_get : GoodIn wsX8_fewestLinks wsX5_get := goodIn_r _ [6, 7, 8, 9, 10, 24] (by decide +kernel) (by decide +kernel)
set_option maxRecDepth 20000 in
theorem gX8_fewestLinks_X5_get_n33 : GoodIn wsX8_fewestLinks (wsX5_get) := ggX8_fewestLinks_X5_get
set_option maxRecDepth 20000 in
theorem ggX8_fewestLinks_X9_strengthIn : GoodIn wsX8_fewestLinks wsX9_strengthIn := goodIn_r _ [14, 15, 16, 17, 8, 9, 10, 18, 19, 25, 26, 27, 28, 29, 30, 31, 32, 33, 34] (by decide +kernel) (by decide +kernel)
set_option maxRecDepth 20000 in
theorem gX8_fewestLinks_X9_strengthIn_n89 : GoodIn wsX8_fewestLinks (wsX9_strengthIn) := ggX8_fewestLinks_X9_strengthIn
theorem dX8_fewestLinks_0 : decode cX8_fewestLinks 0 = .ok (.aload_n 0, 1) := by decide +kernel
theorem dX8_fewestLinks_1 : decode cX8_fewestLinks 1 = .ok (.getfield 26, 3) := by decide +kernel
theorem dX8_fewestLinks_4 : decode cX8_fewestLinks 4 = .ok (.iconst 0, 1) := by decide +kernel
theorem dX8_fewestLinks_5 : decode cX8_fewestLinks 5 = .ok (.iload_n 1, 1) := by decide +kernel
theorem dX8_fewestLinks_6 : decode cX8_fewestLinks 6 = .ok (.invokevirtual 33, 3) := by decide +kernel
theorem dX8_fewestLinks_9 : decode cX8_fewestLinks 9 = .ok (.istore_n 3, 1) := by decide +kernel
theorem dX8_fewestLinks_10 : decode cX8_fewestLinks 10 = .ok (.iconst 1, 1) := by decide +kernel
theorem dX8_fewestLinks_11 : decode cX8_fewestLinks 11 = .ok (.istore 4, 2) := by decide +kernel
theorem dX8_fewestLinks_13 : decode cX8_fewestLinks 13 = .ok (.iload 4, 2) := by decide +kernel
theorem dX8_fewestLinks_15 : decode cX8_fewestLinks 15 = .ok (.bipush 60, 2) := by decide +kernel
theorem dX8_fewestLinks_17 : decode cX8_fewestLinks 17 = .ok (.if_icmp .gt 27, 3) := by decide +kernel
theorem dX8_fewestLinks_20 : decode cX8_fewestLinks 20 = .ok (.aload_n 0, 1) := by decide +kernel
theorem dX8_fewestLinks_21 : decode cX8_fewestLinks 21 = .ok (.getfield 22, 3) := by decide +kernel
theorem dX8_fewestLinks_24 : decode cX8_fewestLinks 24 = .ok (.iload_n 3, 1) := by decide +kernel
theorem dX8_fewestLinks_25 : decode cX8_fewestLinks 25 = .ok (.iload_n 1, 1) := by decide +kernel
theorem dX8_fewestLinks_26 : decode cX8_fewestLinks 26 = .ok (.iload 4, 2) := by decide +kernel
theorem dX8_fewestLinks_28 : decode cX8_fewestLinks 28 = .ok (.invokevirtual 89, 3) := by decide +kernel
theorem dX8_fewestLinks_31 : decode cX8_fewestLinks 31 = .ok (.iload_n 2, 1) := by decide +kernel
theorem dX8_fewestLinks_32 : decode cX8_fewestLinks 32 = .ok (.if_icmp .lt 6, 3) := by decide +kernel
theorem dX8_fewestLinks_35 : decode cX8_fewestLinks 35 = .ok (.iload 4, 2) := by decide +kernel
theorem dX8_fewestLinks_37 : decode cX8_fewestLinks 37 = .ok (.ireturn, 1) := by decide +kernel
theorem dX8_fewestLinks_38 : decode cX8_fewestLinks 38 = .ok (.iinc 4 1, 3) := by decide +kernel
theorem dX8_fewestLinks_41 : decode cX8_fewestLinks 41 = .ok (.goto (-28), 3) := by decide +kernel
theorem dX8_fewestLinks_44 : decode cX8_fewestLinks 44 = .ok (.bipush (-9), 2) := by decide +kernel
theorem dX8_fewestLinks_46 : decode cX8_fewestLinks 46 = .ok (.ireturn, 1) := by decide +kernel
set_option maxRecDepth 20000 in
theorem ggX9_init_X5_init : GoodIn wsX9_init wsX5_init := goodIn_r _ [16, 17, 2, 3, 4, 18, 43] (by decide +kernel) (by decide +kernel)
set_option maxRecDepth 20000 in
theorem gX9_init_X5_init_n32 : GoodIn wsX9_init (wsX5_init) := ggX9_init_X5_init
set_option maxRecDepth 20000 in
theorem ggX9_init_X9_empties : GoodIn wsX9_init wsX9_empties := goodIn_r _ [23, 5, 6, 10, 14, 24, 25, 26, 27, 28, 29, 30, 13, 31, 32, 18, 33, 34, 35, 36, 37, 38, 39, 40, 41, 42, 43] (by decide +kernel) (by decide +kernel)
set_option maxRecDepth 20000 in
theorem gX9_init_X9_empties : GoodIn wsX9_init (wsV RX9 37 RX9 yX9_empties wsX9_empties) := goodIn_app (goodIn_of _ (by decide +kernel)) ggX9_init_X9_empties
theorem dX9_init_0 : decode cX9_init 0 = .ok (.aload_n 0, 1) := by decide +kernel
theorem dX9_init_1 : decode cX9_init 1 = .ok (.invokespecial 3, 3) := by decide +kernel
theorem dX9_init_4 : decode cX9_init 4 = .ok (.aload_n 0, 1) := by decide +kernel
theorem dX9_init_5 : decode cX9_init 5 = .ok (.bipush 10, 2) := by decide +kernel
theorem dX9_init_7 : decode cX9_init 7 = .ok (.newarray .int, 2) := by decide +kernel
theorem dX9_init_9 : decode cX9_init 9 = .ok (.putfield 9, 3) := by decide +kernel
theorem dX9_init_12 : decode cX9_init 12 = .ok (.aload_n 0, 1) := by decide +kernel
theorem dX9_init_13 : decode cX9_init 13 = .ok (.bipush 10, 2) := by decide +kernel
theorem dX9_init_15 : decode cX9_init 15 = .ok (.newarray .int, 2) := by decide +kernel
theorem dX9_init_17 : decode cX9_init 17 = .ok (.putfield 15, 3) := by decide +kernel
theorem dX9_init_20 : decode cX9_init 20 = .ok (.aload_n 0, 1) := by decide +kernel
theorem dX9_init_21 : decode cX9_init 21 = .ok (.bipush 8, 2) := by decide +kernel
theorem dX9_init_23 : decode cX9_init 23 = .ok (.newarray .int, 2) := by decide +kernel
theorem dX9_init_25 : decode cX9_init 25 = .ok (.putfield 18, 3) := by decide +kernel
theorem dX9_init_28 : decode cX9_init 28 = .ok (.aload_n 0, 1) := by decide +kernel
theorem dX9_init_29 : decode cX9_init 29 = .ok (.bipush 8, 2) := by decide +kernel
theorem dX9_init_31 : decode cX9_init 31 = .ok (.newarray .int, 2) := by decide +kernel
theorem dX9_init_33 : decode cX9_init 33 = .ok (.putfield 21, 3) := by decide +kernel
theorem dX9_init_36 : decode cX9_init 36 = .ok (.aload_n 0, 1) := by decide +kernel
theorem dX9_init_37 : decode cX9_init 37 = .ok (.bipush 8, 2) := by decide +kernel
theorem dX9_init_39 : decode cX9_init 39 = .ok (.newarray .int, 2) := by decide +kernel
theorem dX9_init_41 : decode cX9_init 41 = .ok (.putfield 24, 3) := by decide +kernel
theorem dX9_init_44 : decode cX9_init 44 = .ok (.aload_n 0, 1) := by decide +kernel
theorem dX9_init_45 : decode cX9_init 45 = .ok (.bipush 6, 2) := by decide +kernel
theorem dX9_init_47 : decode cX9_init 47 = .ok (.newarray .int, 2) := by decide +kernel
theorem dX9_init_49 : decode cX9_init 49 = .ok (.putfield 27, 3) := by decide +kernel
theorem dX9_init_52 : decode cX9_init 52 = .ok (.aload_n 0, 1) := by decide +kernel
theorem dX9_init_53 : decode cX9_init 53 = .ok (.new 30, 3) := by decide +kernel
theorem dX9_init_56 : decode cX9_init 56 = .ok (.dup, 1) := by decide +kernel
theorem dX9_init_57 : decode cX9_init 57 = .ok (.invokespecial 32, 3) := by decide +kernel
theorem dX9_init_60 : decode cX9_init 60 = .ok (.putfield 33, 3) := by decide +kernel
theorem dX9_init_63 : decode cX9_init 63 = .ok (.aload_n 0, 1) := by decide +kernel
theorem dX9_init_64 : decode cX9_init 64 = .ok (.invokevirtual 37, 3) := by decide +kernel
theorem dX9_init_67 : decode cX9_init 67 = .ok (.return_, 1) := by decide +kernel
set_option maxRecDepth 20000 in
theorem ggX9_empties_X10_fill : GoodIn wsX9_empties wsX10_fill := goodIn_r _ [10] (by decide +kernel) (by decide +kernel)
set_option maxRecDepth 20000 in
theorem gX9_empties_X10_fill_n40 : GoodIn wsX9_empties (wsX10_fill) := ggX9_empties_X10_fill
set_option maxRecDepth 20000 in
theorem ggX9_empties_X5_empties : GoodIn wsX9_empties wsX5_empties := goodIn_r _ [14, 15, 8, 9, 10, 26] (by decide +kernel) (by decide +kernel)
set_option maxRecDepth 20000 in
theorem gX9_empties_X5_empties_n44 : GoodIn wsX9_empties (wsX5_empties) := ggX9_empties_X5_empties
theorem dX9_empties_0 : decode cX9_empties 0 = .ok (.aload_n 0, 1) := by decide +kernel
theorem dX9_empties_1 : decode cX9_empties 1 = .ok (.getfield 9, 3) := by decide +kernel
theorem dX9_empties_4 : decode cX9_empties 4 = .ok (.iconst 3, 1) := by decide +kernel
theorem dX9_empties_5 : decode cX9_empties 5 = .ok (.invokestatic 40, 3) := by decide +kernel
theorem dX9_empties_8 : decode cX9_empties 8 = .ok (.aload_n 0, 1) := by decide +kernel
theorem dX9_empties_9 : decode cX9_empties 9 = .ok (.getfield 15, 3) := by decide +kernel
theorem dX9_empties_12 : decode cX9_empties 12 = .ok (.iconst 1, 1) := by decide +kernel
theorem dX9_empties_13 : decode cX9_empties 13 = .ok (.invokestatic 40, 3) := by decide +kernel
theorem dX9_empties_16 : decode cX9_empties 16 = .ok (.aload_n 0, 1) := by decide +kernel
theorem dX9_empties_17 : decode cX9_empties 17 = .ok (.getfield 27, 3) := by decide +kernel
theorem dX9_empties_20 : decode cX9_empties 20 = .ok (.iconst 0, 1) := by decide +kernel
theorem dX9_empties_21 : decode cX9_empties 21 = .ok (.invokestatic 40, 3) := by decide +kernel
theorem dX9_empties_24 : decode cX9_empties 24 = .ok (.aload_n 0, 1) := by decide +kernel
theorem dX9_empties_25 : decode cX9_empties 25 = .ok (.getfield 33, 3) := by decide +kernel
theorem dX9_empties_28 : decode cX9_empties 28 = .ok (.invokevirtual 44, 3) := by decide +kernel
theorem dX9_empties_31 : decode cX9_empties 31 = .ok (.aload_n 0, 1) := by decide +kernel
theorem dX9_empties_32 : decode cX9_empties 32 = .ok (.iconst 0, 1) := by decide +kernel
theorem dX9_empties_33 : decode cX9_empties 33 = .ok (.putfield 45, 3) := by decide +kernel
theorem dX9_empties_36 : decode cX9_empties 36 = .ok (.aload_n 0, 1) := by decide +kernel
theorem dX9_empties_37 : decode cX9_empties 37 = .ok (.iconst 0, 1) := by decide +kernel
theorem dX9_empties_38 : decode cX9_empties 38 = .ok (.putfield 49, 3) := by decide +kernel
theorem dX9_empties_41 : decode cX9_empties 41 = .ok (.aload_n 0, 1) := by decide +kernel
theorem dX9_empties_42 : decode cX9_empties 42 = .ok (.iconst 0, 1) := by decide +kernel
theorem dX9_empties_43 : decode cX9_empties 43 = .ok (.putfield 52, 3) := by decide +kernel
theorem dX9_empties_46 : decode cX9_empties 46 = .ok (.return_, 1) := by decide +kernel
set_option maxRecDepth 20000 in
theorem ggX9_becomes_X10_copy : GoodIn wsX9_becomes wsX10_copy := goodIn_r _ [13, 14, 15, 16, 17] (by decide +kernel) (by decide +kernel)
set_option maxRecDepth 20000 in
theorem gX9_becomes_X10_copy_n55 : GoodIn wsX9_becomes (wsX10_copy) := ggX9_becomes_X10_copy
set_option maxRecDepth 20000 in
theorem ggX9_becomes_X5_becomes : GoodIn wsX9_becomes wsX5_becomes := goodIn_r _ [21, 22, 11, 12, 13, 14, 15, 16, 17, 33] (by decide +kernel) (by decide +kernel)
set_option maxRecDepth 20000 in
theorem gX9_becomes_X5_becomes_n59 : GoodIn wsX9_becomes (wsX5_becomes) := ggX9_becomes_X5_becomes
theorem dX9_becomes_0 : decode cX9_becomes 0 = .ok (.aload_n 1, 1) := by decide +kernel
theorem dX9_becomes_1 : decode cX9_becomes 1 = .ok (.getfield 9, 3) := by decide +kernel
theorem dX9_becomes_4 : decode cX9_becomes 4 = .ok (.iconst 0, 1) := by decide +kernel
theorem dX9_becomes_5 : decode cX9_becomes 5 = .ok (.aload_n 0, 1) := by decide +kernel
theorem dX9_becomes_6 : decode cX9_becomes 6 = .ok (.getfield 9, 3) := by decide +kernel
theorem dX9_becomes_9 : decode cX9_becomes 9 = .ok (.iconst 0, 1) := by decide +kernel
theorem dX9_becomes_10 : decode cX9_becomes 10 = .ok (.bipush 10, 2) := by decide +kernel
theorem dX9_becomes_12 : decode cX9_becomes 12 = .ok (.invokestatic 55, 3) := by decide +kernel
theorem dX9_becomes_15 : decode cX9_becomes 15 = .ok (.aload_n 1, 1) := by decide +kernel
theorem dX9_becomes_16 : decode cX9_becomes 16 = .ok (.getfield 15, 3) := by decide +kernel
theorem dX9_becomes_19 : decode cX9_becomes 19 = .ok (.iconst 0, 1) := by decide +kernel
theorem dX9_becomes_20 : decode cX9_becomes 20 = .ok (.aload_n 0, 1) := by decide +kernel
theorem dX9_becomes_21 : decode cX9_becomes 21 = .ok (.getfield 15, 3) := by decide +kernel
theorem dX9_becomes_24 : decode cX9_becomes 24 = .ok (.iconst 0, 1) := by decide +kernel
theorem dX9_becomes_25 : decode cX9_becomes 25 = .ok (.bipush 10, 2) := by decide +kernel
theorem dX9_becomes_27 : decode cX9_becomes 27 = .ok (.invokestatic 55, 3) := by decide +kernel
theorem dX9_becomes_30 : decode cX9_becomes 30 = .ok (.aload_n 1, 1) := by decide +kernel
theorem dX9_becomes_31 : decode cX9_becomes 31 = .ok (.getfield 18, 3) := by decide +kernel
theorem dX9_becomes_34 : decode cX9_becomes 34 = .ok (.iconst 0, 1) := by decide +kernel
theorem dX9_becomes_35 : decode cX9_becomes 35 = .ok (.aload_n 0, 1) := by decide +kernel
theorem dX9_becomes_36 : decode cX9_becomes 36 = .ok (.getfield 18, 3) := by decide +kernel
theorem dX9_becomes_39 : decode cX9_becomes 39 = .ok (.iconst 0, 1) := by decide +kernel
theorem dX9_becomes_40 : decode cX9_becomes 40 = .ok (.bipush 8, 2) := by decide +kernel
theorem dX9_becomes_42 : decode cX9_becomes 42 = .ok (.invokestatic 55, 3) := by decide +kernel
theorem dX9_becomes_45 : decode cX9_becomes 45 = .ok (.aload_n 1, 1) := by decide +kernel
theorem dX9_becomes_46 : decode cX9_becomes 46 = .ok (.getfield 21, 3) := by decide +kernel
theorem dX9_becomes_49 : decode cX9_becomes 49 = .ok (.iconst 0, 1) := by decide +kernel
theorem dX9_becomes_50 : decode cX9_becomes 50 = .ok (.aload_n 0, 1) := by decide +kernel
theorem dX9_becomes_51 : decode cX9_becomes 51 = .ok (.getfield 21, 3) := by decide +kernel
theorem dX9_becomes_54 : decode cX9_becomes 54 = .ok (.iconst 0, 1) := by decide +kernel
theorem dX9_becomes_55 : decode cX9_becomes 55 = .ok (.bipush 8, 2) := by decide +kernel
theorem dX9_becomes_57 : decode cX9_becomes 57 = .ok (.invokestatic 55, 3) := by decide +kernel
theorem dX9_becomes_60 : decode cX9_becomes 60 = .ok (.aload_n 1, 1) := by decide +kernel
theorem dX9_becomes_61 : decode cX9_becomes 61 = .ok (.getfield 24, 3) := by decide +kernel
theorem dX9_becomes_64 : decode cX9_becomes 64 = .ok (.iconst 0, 1) := by decide +kernel
theorem dX9_becomes_65 : decode cX9_becomes 65 = .ok (.aload_n 0, 1) := by decide +kernel
theorem dX9_becomes_66 : decode cX9_becomes 66 = .ok (.getfield 24, 3) := by decide +kernel
theorem dX9_becomes_69 : decode cX9_becomes 69 = .ok (.iconst 0, 1) := by decide +kernel
theorem dX9_becomes_70 : decode cX9_becomes 70 = .ok (.bipush 8, 2) := by decide +kernel
theorem dX9_becomes_72 : decode cX9_becomes 72 = .ok (.invokestatic 55, 3) := by decide +kernel
theorem dX9_becomes_75 : decode cX9_becomes 75 = .ok (.aload_n 1, 1) := by decide +kernel
theorem dX9_becomes_76 : decode cX9_becomes 76 = .ok (.getfield 27, 3) := by decide +kernel
theorem dX9_becomes_79 : decode cX9_becomes 79 = .ok (.iconst 0, 1) := by decide +kernel
theorem dX9_becomes_80 : decode cX9_becomes 80 = .ok (.aload_n 0, 1) := by decide +kernel
theorem dX9_becomes_81 : decode cX9_becomes 81 = .ok (.getfield 27, 3) := by decide +kernel
theorem dX9_becomes_84 : decode cX9_becomes 84 = .ok (.iconst 0, 1) := by decide +kernel
theorem dX9_becomes_85 : decode cX9_becomes 85 = .ok (.bipush 6, 2) := by decide +kernel
theorem dX9_becomes_87 : decode cX9_becomes 87 = .ok (.invokestatic 55, 3) := by decide +kernel
theorem dX9_becomes_90 : decode cX9_becomes 90 = .ok (.aload_n 0, 1) := by decide +kernel
theorem dX9_becomes_91 : decode cX9_becomes 91 = .ok (.getfield 33, 3) := by decide +kernel
theorem dX9_becomes_94 : decode cX9_becomes 94 = .ok (.aload_n 1, 1) := by decide +kernel
theorem dX9_becomes_95 : decode cX9_becomes 95 = .ok (.getfield 33, 3) := by decide +kernel
theorem dX9_becomes_98 : decode cX9_becomes 98 = .ok (.invokevirtual 59, 3) := by decide +kernel
theorem dX9_becomes_101 : decode cX9_becomes 101 = .ok (.aload_n 0, 1) := by decide +kernel
theorem dX9_becomes_102 : decode cX9_becomes 102 = .ok (.aload_n 1, 1) := by decide +kernel
theorem dX9_becomes_103 : decode cX9_becomes 103 = .ok (.getfield 45, 3) := by decide +kernel
theorem dX9_becomes_106 : decode cX9_becomes 106 = .ok (.putfield 45, 3) := by decide +kernel
theorem dX9_becomes_109 : decode cX9_becomes 109 = .ok (.aload_n 0, 1) := by decide +kernel
theorem dX9_becomes_110 : decode cX9_becomes 110 = .ok (.aload_n 1, 1) := by decide +kernel
theorem dX9_becomes_111 : decode cX9_becomes 111 = .ok (.getfield 49, 3) := by decide +kernel
theorem dX9_becomes_114 : decode cX9_becomes 114 = .ok (.putfield 49, 3) := by decide +kernel
theorem dX9_becomes_117 : decode cX9_becomes 117 = .ok (.aload_n 0, 1) := by decide +kernel
theorem dX9_becomes_118 : decode cX9_becomes 118 = .ok (.aload_n 1, 1) := by decide +kernel
theorem dX9_becomes_119 : decode cX9_becomes 119 = .ok (.getfield 52, 3) := by decide +kernel
theorem dX9_becomes_122 : decode cX9_becomes 122 = .ok (.putfield 52, 3) := by decide +kernel
theorem dX9_becomes_125 : decode cX9_becomes 125 = .ok (.return_, 1) := by decide +kernel
set_option maxRecDepth 20000 in
theorem ggX9_addRaft_X5_set : GoodIn wsX9_addRaft wsX5_set := goodIn_r _ [6, 7, 8, 9, 10, 21] (by decide +kernel) (by decide +kernel)
set_option maxRecDepth 20000 in
theorem gX9_addRaft_X5_set_n63 : GoodIn wsX9_addRaft (wsX5_set) := ggX9_addRaft_X5_set
theorem dX9_addRaft_0 : decode cX9_addRaft 0 = .ok (.aload_n 0, 1) := by decide +kernel
theorem dX9_addRaft_1 : decode cX9_addRaft 1 = .ok (.getfield 33, 3) := by decide +kernel
theorem dX9_addRaft_4 : decode cX9_addRaft 4 = .ok (.bipush 32, 2) := by decide +kernel
theorem dX9_addRaft_6 : decode cX9_addRaft 6 = .ok (.aload_n 0, 1) := by decide +kernel
theorem dX9_addRaft_7 : decode cX9_addRaft 7 = .ok (.getfield 45, 3) := by decide +kernel
theorem dX9_addRaft_10 : decode cX9_addRaft 10 = .ok (.iload_n 1, 1) := by decide +kernel
theorem dX9_addRaft_11 : decode cX9_addRaft 11 = .ok (.invokevirtual 63, 3) := by decide +kernel
theorem dX9_addRaft_14 : decode cX9_addRaft 14 = .ok (.aload_n 0, 1) := by decide +kernel
theorem dX9_addRaft_15 : decode cX9_addRaft 15 = .ok (.dup, 1) := by decide +kernel
theorem dX9_addRaft_16 : decode cX9_addRaft 16 = .ok (.getfield 45, 3) := by decide +kernel
theorem dX9_addRaft_19 : decode cX9_addRaft 19 = .ok (.iconst 1, 1) := by decide +kernel
theorem dX9_addRaft_20 : decode cX9_addRaft 20 = .ok (.iadd, 1) := by decide +kernel
theorem dX9_addRaft_21 : decode cX9_addRaft 21 = .ok (.putfield 45, 3) := by decide +kernel
theorem dX9_addRaft_24 : decode cX9_addRaft 24 = .ok (.return_, 1) := by decide +kernel
set_option maxRecDepth 20000 in
theorem ggX9_addAnchor_X10_put : GoodIn wsX9_addAnchor wsX10_put := goodIn_r _ [8] (by decide +kernel) (by decide +kernel)
set_option maxRecDepth 20000 in
theorem gX9_addAnchor_X10_put_n67 : GoodIn wsX9_addAnchor (wsX10_put) := ggX9_addAnchor_X10_put
set_option maxRecDepth 20000 in
theorem ggX9_addAnchor_X5_set : GoodIn wsX9_addAnchor wsX5_set := goodIn_r _ [12, 13, 6, 7, 8, 24] (by decide +kernel) (by decide +kernel)
set_option maxRecDepth 20000 in
theorem gX9_addAnchor_X5_set_n63 : GoodIn wsX9_addAnchor (wsX5_set) := ggX9_addAnchor_X5_set
theorem dX9_addAnchor_0 : decode cX9_addAnchor 0 = .ok (.aload_n 0, 1) := by decide +kernel
theorem dX9_addAnchor_1 : decode cX9_addAnchor 1 = .ok (.getfield 18, 3) := by decide +kernel
theorem dX9_addAnchor_4 : decode cX9_addAnchor 4 = .ok (.aload_n 0, 1) := by decide +kernel
theorem dX9_addAnchor_5 : decode cX9_addAnchor 5 = .ok (.getfield 49, 3) := by decide +kernel
theorem dX9_addAnchor_8 : decode cX9_addAnchor 8 = .ok (.iload_n 1, 1) := by decide +kernel
theorem dX9_addAnchor_9 : decode cX9_addAnchor 9 = .ok (.invokestatic 67, 3) := by decide +kernel
theorem dX9_addAnchor_12 : decode cX9_addAnchor 12 = .ok (.aload_n 0, 1) := by decide +kernel
theorem dX9_addAnchor_13 : decode cX9_addAnchor 13 = .ok (.getfield 21, 3) := by decide +kernel
theorem dX9_addAnchor_16 : decode cX9_addAnchor 16 = .ok (.aload_n 0, 1) := by decide +kernel
theorem dX9_addAnchor_17 : decode cX9_addAnchor 17 = .ok (.getfield 49, 3) := by decide +kernel
theorem dX9_addAnchor_20 : decode cX9_addAnchor 20 = .ok (.iload_n 3, 1) := by decide +kernel
theorem dX9_addAnchor_21 : decode cX9_addAnchor 21 = .ok (.invokestatic 67, 3) := by decide +kernel
theorem dX9_addAnchor_24 : decode cX9_addAnchor 24 = .ok (.aload_n 0, 1) := by decide +kernel
theorem dX9_addAnchor_25 : decode cX9_addAnchor 25 = .ok (.getfield 24, 3) := by decide +kernel
theorem dX9_addAnchor_28 : decode cX9_addAnchor 28 = .ok (.aload_n 0, 1) := by decide +kernel
theorem dX9_addAnchor_29 : decode cX9_addAnchor 29 = .ok (.getfield 49, 3) := by decide +kernel
theorem dX9_addAnchor_32 : decode cX9_addAnchor 32 = .ok (.iload 5, 2) := by decide +kernel
theorem dX9_addAnchor_34 : decode cX9_addAnchor 34 = .ok (.invokestatic 67, 3) := by decide +kernel
theorem dX9_addAnchor_37 : decode cX9_addAnchor 37 = .ok (.aload_n 0, 1) := by decide +kernel
theorem dX9_addAnchor_38 : decode cX9_addAnchor 38 = .ok (.getfield 33, 3) := by decide +kernel
theorem dX9_addAnchor_41 : decode cX9_addAnchor 41 = .ok (.iconst 0, 1) := by decide +kernel
theorem dX9_addAnchor_42 : decode cX9_addAnchor 42 = .ok (.aload_n 0, 1) := by decide +kernel
theorem dX9_addAnchor_43 : decode cX9_addAnchor 43 = .ok (.getfield 49, 3) := by decide +kernel
theorem dX9_addAnchor_46 : decode cX9_addAnchor 46 = .ok (.iload_n 2, 1) := by decide +kernel
theorem dX9_addAnchor_47 : decode cX9_addAnchor 47 = .ok (.invokevirtual 63, 3) := by decide +kernel
theorem dX9_addAnchor_50 : decode cX9_addAnchor 50 = .ok (.aload_n 0, 1) := by decide +kernel
theorem dX9_addAnchor_51 : decode cX9_addAnchor 51 = .ok (.getfield 33, 3) := by decide +kernel
theorem dX9_addAnchor_54 : decode cX9_addAnchor 54 = .ok (.bipush 8, 2) := by decide +kernel
theorem dX9_addAnchor_56 : decode cX9_addAnchor 56 = .ok (.aload_n 0, 1) := by decide +kernel
theorem dX9_addAnchor_57 : decode cX9_addAnchor 57 = .ok (.getfield 49, 3) := by decide +kernel
theorem dX9_addAnchor_60 : decode cX9_addAnchor 60 = .ok (.iload 4, 2) := by decide +kernel
theorem dX9_addAnchor_62 : decode cX9_addAnchor 62 = .ok (.invokevirtual 63, 3) := by decide +kernel
theorem dX9_addAnchor_65 : decode cX9_addAnchor 65 = .ok (.aload_n 0, 1) := by decide +kernel
theorem dX9_addAnchor_66 : decode cX9_addAnchor 66 = .ok (.dup, 1) := by decide +kernel
theorem dX9_addAnchor_67 : decode cX9_addAnchor 67 = .ok (.getfield 49, 3) := by decide +kernel
theorem dX9_addAnchor_70 : decode cX9_addAnchor 70 = .ok (.iconst 1, 1) := by decide +kernel
theorem dX9_addAnchor_71 : decode cX9_addAnchor 71 = .ok (.iadd, 1) := by decide +kernel
theorem dX9_addAnchor_72 : decode cX9_addAnchor 72 = .ok (.putfield 49, 3) := by decide +kernel
theorem dX9_addAnchor_75 : decode cX9_addAnchor 75 = .ok (.return_, 1) := by decide +kernel
set_option maxRecDepth 20000 in
theorem ggX9_addRope_X10_at : GoodIn wsX9_addRope wsX10_at := goodIn_r _ [5] (by decide +kernel) (by decide +kernel)
set_option maxRecDepth 20000 in
theorem gX9_addRope_X10_at_n71 : GoodIn wsX9_addRope (wsX10_at) := ggX9_addRope_X10_at
set_option maxRecDepth 20000 in
theorem ggX9_addRope_X10_has : GoodIn wsX9_addRope wsX10_has := goodIn_r _ [7, 8, 9, 4, 10] (by decide +kernel) (by decide +kernel)
set_option maxRecDepth 20000 in
theorem gX9_addRope_X10_has_n75 : GoodIn wsX9_addRope (wsX10_has) := ggX9_addRope_X10_has
set_option maxRecDepth 20000 in
theorem ggX9_addRope_X10_bit : GoodIn wsX9_addRope wsX10_bit := goodIn_r _ [10] (by decide +kernel) (by decide +kernel)
set_option maxRecDepth 20000 in
theorem gX9_addRope_X10_bit_n79 : GoodIn wsX9_addRope (wsX10_bit) := ggX9_addRope_X10_bit
set_option maxRecDepth 20000 in
theorem ggX9_addRope_X10_put : GoodIn wsX9_addRope wsX10_put := goodIn_r _ [12] (by decide +kernel) (by decide +kernel)
set_option maxRecDepth 20000 in
theorem gX9_addRope_X10_put_n67 : GoodIn wsX9_addRope (wsX10_put) := ggX9_addRope_X10_put
theorem dX9_addRope_0 : decode cX9_addRope 0 = .ok (.aload_n 0, 1) := by decide +kernel
theorem dX9_addRope_1 : decode cX9_addRope 1 = .ok (.getfield 27, 3) := by decide +kernel
theorem dX9_addRope_4 : decode cX9_addRope 4 = .ok (.iload_n 1, 1) := by decide +kernel
theorem dX9_addRope_5 : decode cX9_addRope 5 = .ok (.invokestatic 71, 3) := by decide +kernel
theorem dX9_addRope_8 : decode cX9_addRope 8 = .ok (.iload_n 2, 1) := by decide +kernel
theorem dX9_addRope_9 : decode cX9_addRope 9 = .ok (.invokestatic 75, 3) := by decide +kernel
theorem dX9_addRope_12 : decode cX9_addRope 12 = .ok (.ifCond .eq 4, 3) := by decide +kernel
theorem dX9_addRope_15 : decode cX9_addRope 15 = .ok (.return_, 1) := by decide +kernel
theorem dX9_addRope_16 : decode cX9_addRope 16 = .ok (.aload_n 0, 1) := by decide +kernel
theorem dX9_addRope_17 : decode cX9_addRope 17 = .ok (.getfield 27, 3) := by decide +kernel
theorem dX9_addRope_20 : decode cX9_addRope 20 = .ok (.iload_n 1, 1) := by decide +kernel
theorem dX9_addRope_21 : decode cX9_addRope 21 = .ok (.aload_n 0, 1) := by decide +kernel
theorem dX9_addRope_22 : decode cX9_addRope 22 = .ok (.getfield 27, 3) := by decide +kernel
theorem dX9_addRope_25 : decode cX9_addRope 25 = .ok (.iload_n 1, 1) := by decide +kernel
theorem dX9_addRope_26 : decode cX9_addRope 26 = .ok (.invokestatic 71, 3) := by decide +kernel
theorem dX9_addRope_29 : decode cX9_addRope 29 = .ok (.iload_n 2, 1) := by decide +kernel
theorem dX9_addRope_30 : decode cX9_addRope 30 = .ok (.invokestatic 79, 3) := by decide +kernel
theorem dX9_addRope_33 : decode cX9_addRope 33 = .ok (.ior, 1) := by decide +kernel
theorem dX9_addRope_34 : decode cX9_addRope 34 = .ok (.invokestatic 67, 3) := by decide +kernel
theorem dX9_addRope_37 : decode cX9_addRope 37 = .ok (.aload_n 0, 1) := by decide +kernel
theorem dX9_addRope_38 : decode cX9_addRope 38 = .ok (.getfield 27, 3) := by decide +kernel
theorem dX9_addRope_41 : decode cX9_addRope 41 = .ok (.iload_n 2, 1) := by decide +kernel
theorem dX9_addRope_42 : decode cX9_addRope 42 = .ok (.aload_n 0, 1) := by decide +kernel
theorem dX9_addRope_43 : decode cX9_addRope 43 = .ok (.getfield 27, 3) := by decide +kernel
theorem dX9_addRope_46 : decode cX9_addRope 46 = .ok (.iload_n 2, 1) := by decide +kernel
theorem dX9_addRope_47 : decode cX9_addRope 47 = .ok (.invokestatic 71, 3) := by decide +kernel
theorem dX9_addRope_50 : decode cX9_addRope 50 = .ok (.iload_n 1, 1) := by decide +kernel
theorem dX9_addRope_51 : decode cX9_addRope 51 = .ok (.invokestatic 79, 3) := by decide +kernel
theorem dX9_addRope_54 : decode cX9_addRope 54 = .ok (.ior, 1) := by decide +kernel
theorem dX9_addRope_55 : decode cX9_addRope 55 = .ok (.invokestatic 67, 3) := by decide +kernel
theorem dX9_addRope_58 : decode cX9_addRope 58 = .ok (.aload_n 0, 1) := by decide +kernel
theorem dX9_addRope_59 : decode cX9_addRope 59 = .ok (.dup, 1) := by decide +kernel
theorem dX9_addRope_60 : decode cX9_addRope 60 = .ok (.getfield 52, 3) := by decide +kernel
theorem dX9_addRope_63 : decode cX9_addRope 63 = .ok (.iconst 1, 1) := by decide +kernel
theorem dX9_addRope_64 : decode cX9_addRope 64 = .ok (.iadd, 1) := by decide +kernel
theorem dX9_addRope_65 : decode cX9_addRope 65 = .ok (.putfield 52, 3) := by decide +kernel
theorem dX9_addRope_68 : decode cX9_addRope 68 = .ok (.return_, 1) := by decide +kernel
set_option maxRecDepth 20000 in
theorem ggX9_strengthIn_X10_at : GoodIn wsX9_strengthIn wsX10_at := goodIn_r _ [6] (by decide +kernel) (by decide +kernel)
set_option maxRecDepth 20000 in
theorem gX9_strengthIn_X10_at_n71 : GoodIn wsX9_strengthIn (wsX10_at) := ggX9_strengthIn_X10_at
set_option maxRecDepth 20000 in
theorem ggX9_strengthIn_X10_divided : GoodIn wsX9_strengthIn wsX10_divided := goodIn_r _ [8] (by decide +kernel) (by decide +kernel)
set_option maxRecDepth 20000 in
theorem gX9_strengthIn_X10_divided_n83 : GoodIn wsX9_strengthIn (wsX10_divided) := ggX9_strengthIn_X10_divided
theorem dX9_strengthIn_0 : decode cX9_strengthIn 0 = .ok (.aload_n 0, 1) := by decide +kernel
theorem dX9_strengthIn_1 : decode cX9_strengthIn 1 = .ok (.getfield 21, 3) := by decide +kernel
theorem dX9_strengthIn_4 : decode cX9_strengthIn 4 = .ok (.iload_n 2, 1) := by decide +kernel
theorem dX9_strengthIn_5 : decode cX9_strengthIn 5 = .ok (.invokestatic 71, 3) := by decide +kernel
theorem dX9_strengthIn_8 : decode cX9_strengthIn 8 = .ok (.aload_n 0, 1) := by decide +kernel
theorem dX9_strengthIn_9 : decode cX9_strengthIn 9 = .ok (.getfield 15, 3) := by decide +kernel
theorem dX9_strengthIn_12 : decode cX9_strengthIn 12 = .ok (.iload_n 1, 1) := by decide +kernel
theorem dX9_strengthIn_13 : decode cX9_strengthIn 13 = .ok (.invokestatic 71, 3) := by decide +kernel
theorem dX9_strengthIn_16 : decode cX9_strengthIn 16 = .ok (.iconst 1, 1) := by decide +kernel
theorem dX9_strengthIn_17 : decode cX9_strengthIn 17 = .ok (.iadd, 1) := by decide +kernel
theorem dX9_strengthIn_18 : decode cX9_strengthIn 18 = .ok (.imul, 1) := by decide +kernel
theorem dX9_strengthIn_19 : decode cX9_strengthIn 19 = .ok (.iload_n 3, 1) := by decide +kernel
theorem dX9_strengthIn_20 : decode cX9_strengthIn 20 = .ok (.aload_n 0, 1) := by decide +kernel
theorem dX9_strengthIn_21 : decode cX9_strengthIn 21 = .ok (.getfield 9, 3) := by decide +kernel
theorem dX9_strengthIn_24 : decode cX9_strengthIn 24 = .ok (.iload_n 1, 1) := by decide +kernel
theorem dX9_strengthIn_25 : decode cX9_strengthIn 25 = .ok (.invokestatic 71, 3) := by decide +kernel
theorem dX9_strengthIn_28 : decode cX9_strengthIn 28 = .ok (.invokestatic 83, 3) := by decide +kernel
theorem dX9_strengthIn_31 : decode cX9_strengthIn 31 = .ok (.iadd, 1) := by decide +kernel
theorem dX9_strengthIn_32 : decode cX9_strengthIn 32 = .ok (.ireturn, 1) := by decide +kernel
set_option maxRecDepth 20000 in
theorem ggX9_strengthOf_X5_get : GoodIn wsX9_strengthOf wsX5_get := goodIn_r _ [4, 5, 6, 7, 8, 19] (by decide +kernel) (by decide +kernel)
set_option maxRecDepth 20000 in
theorem gX9_strengthOf_X5_get_n87 : GoodIn wsX9_strengthOf (wsX5_get) := ggX9_strengthOf_X5_get
set_option maxRecDepth 20000 in
theorem ggX9_strengthOf_X9_strengthIn : GoodIn wsX9_strengthOf wsX9_strengthIn := goodIn_r _ [13, 14, 15, 16, 6, 7, 8, 17, 18, 20, 21, 22, 23, 24, 25, 26, 27, 28, 29] (by decide +kernel) (by decide +kernel)
set_option maxRecDepth 20000 in
theorem gX9_strengthOf_X9_strengthIn : GoodIn wsX9_strengthOf (wsV RX9 90 RX9 yX9_strengthIn wsX9_strengthIn) := goodIn_app (goodIn_of _ (by decide +kernel)) ggX9_strengthOf_X9_strengthIn
theorem dX9_strengthOf_0 : decode cX9_strengthOf 0 = .ok (.aload_n 0, 1) := by decide +kernel
theorem dX9_strengthOf_1 : decode cX9_strengthOf 1 = .ok (.aload_n 1, 1) := by decide +kernel
theorem dX9_strengthOf_2 : decode cX9_strengthOf 2 = .ok (.iconst 0, 1) := by decide +kernel
theorem dX9_strengthOf_3 : decode cX9_strengthOf 3 = .ok (.iload_n 2, 1) := by decide +kernel
theorem dX9_strengthOf_4 : decode cX9_strengthOf 4 = .ok (.invokevirtual 87, 3) := by decide +kernel
theorem dX9_strengthOf_7 : decode cX9_strengthOf 7 = .ok (.iload_n 2, 1) := by decide +kernel
theorem dX9_strengthOf_8 : decode cX9_strengthOf 8 = .ok (.aload_n 1, 1) := by decide +kernel
theorem dX9_strengthOf_9 : decode cX9_strengthOf 9 = .ok (.bipush 8, 2) := by decide +kernel
theorem dX9_strengthOf_11 : decode cX9_strengthOf 11 = .ok (.iload_n 2, 1) := by decide +kernel
theorem dX9_strengthOf_12 : decode cX9_strengthOf 12 = .ok (.invokevirtual 87, 3) := by decide +kernel
theorem dX9_strengthOf_15 : decode cX9_strengthOf 15 = .ok (.invokevirtual 90, 3) := by decide +kernel
theorem dX9_strengthOf_18 : decode cX9_strengthOf 18 = .ok (.ireturn, 1) := by decide +kernel
set_option maxRecDepth 20000 in
theorem ggX10_init_X9_init : GoodIn wsX10_init wsX9_init := goodIn_r _ [47, 48, 2, 3, 49, 50, 51, 52, 53, 54, 55, 56, 10, 11, 57, 58, 59, 60, 61, 62, 63, 64, 6, 65, 66, 67, 68, 69, 70, 71, 72, 73, 74, 123, 124, 125, 126, 127, 128, 129, 130, 131, 132, 145] (by decide +kernel) (by decide +kernel)
set_option maxRecDepth 20000 in
theorem gX10_init_X9_init_n9 : GoodIn wsX10_init (wsX9_init) := ggX10_init_X9_init
set_option maxRecDepth 20000 in
theorem ggX10_init_X5_init : GoodIn wsX10_init wsX5_init := goodIn_r _ [59, 60, 2, 3, 49, 61, 145] (by decide +kernel) (by decide +kernel)
set_option maxRecDepth 20000 in
theorem gX10_init_X5_init_n21 : GoodIn wsX10_init (wsX5_init) := ggX10_init_X5_init
set_option maxRecDepth 20000 in
theorem ggX10_init_X6_init : GoodIn wsX10_init wsX6_init := goodIn_r _ [76, 77, 2, 3, 49, 78, 146, 147] (by decide +kernel) (by decide +kernel)
set_option maxRecDepth 20000 in
theorem gX10_init_X6_init_n28 : GoodIn wsX10_init (wsX6_init) := ggX10_init_X6_init
set_option maxRecDepth 20000 in
theorem ggX10_init_X3_init : GoodIn wsX10_init wsX3_init := goodIn_r _ [80, 81, 2, 3, 82, 10, 11, 83, 84, 14, 15, 85, 58, 59, 60, 49, 61, 75, 76, 77, 78, 145, 148, 149, 150, 146, 147] (by decide +kernel) (by decide +kernel)
set_option maxRecDepth 20000 in
theorem gX10_init_X3_init_n35 : GoodIn wsX10_init (wsX3_init) := ggX10_init_X3_init
set_option maxRecDepth 20000 in
theorem ggX10_init_X7_init : GoodIn wsX10_init wsX7_init := goodIn_r _ [87, 88, 2, 3, 49, 89, 151, 152, 153, 154, 155, 156, 157] (by decide +kernel) (by decide +kernel)
set_option maxRecDepth 20000 in
theorem gX10_init_X7_init_n45 : GoodIn wsX10_init (wsX7_init) := ggX10_init_X7_init
set_option maxRecDepth 20000 in
theorem ggX10_init_X8_init : GoodIn wsX10_init wsX8_init := goodIn_r _ [91, 92, 2, 3, 93, 10, 11, 94, 49, 95, 96, 97, 58, 59, 60, 61, 145, 158, 159, 160, 161] (by decide +kernel) (by decide +kernel)
set_option maxRecDepth 20000 in
theorem gX10_init_X8_init_n52 : GoodIn wsX10_init (wsX8_init) := ggX10_init_X8_init
set_option maxRecDepth 20000 in
theorem ggX10_init_X0_init : GoodIn wsX10_init wsX0_init := goodIn_r _ [99, 100, 2, 3, 49, 101, 102, 103, 104, 162, 163, 164, 165] (by decide +kernel) (by decide +kernel)
set_option maxRecDepth 20000 in
theorem gX10_init_X0_init_n61 : GoodIn wsX10_init (wsX0_init) := ggX10_init_X0_init
set_option maxRecDepth 20000 in
theorem ggX10_init_X2_init : GoodIn wsX10_init wsX2_init := goodIn_r _ [106, 107, 2, 3, 108, 109, 166, 167] (by decide +kernel) (by decide +kernel)
set_option maxRecDepth 20000 in
theorem gX10_init_X2_init_n68 : GoodIn wsX10_init (wsX2_init) := ggX10_init_X2_init
set_option maxRecDepth 20000 in
theorem ggX10_init_X1_init : GoodIn wsX10_init wsX1_init := goodIn_r _ [111, 112, 2, 3, 49, 113, 114, 115, 116, 117, 168, 169, 170, 171, 172, 173] (by decide +kernel) (by decide +kernel)
set_option maxRecDepth 20000 in
theorem gX10_init_X1_init_n75 : GoodIn wsX10_init (wsX1_init) := ggX10_init_X1_init
set_option maxRecDepth 20000 in
theorem ggX10_init_X4_init : GoodIn wsX10_init wsX4_init := goodIn_r _ [119, 120, 2, 3, 121, 122, 174, 175, 176] (by decide +kernel) (by decide +kernel)
set_option maxRecDepth 20000 in
theorem gX10_init_X4_init_n82 : GoodIn wsX10_init (wsX4_init) := ggX10_init_X4_init
theorem dX10_init_0 : decode cX10_init 0 = .ok (.aload_n 0, 1) := by decide +kernel
theorem dX10_init_1 : decode cX10_init 1 = .ok (.invokespecial 1, 3) := by decide +kernel
theorem dX10_init_4 : decode cX10_init 4 = .ok (.aload_n 0, 1) := by decide +kernel
theorem dX10_init_5 : decode cX10_init 5 = .ok (.new 7, 3) := by decide +kernel
theorem dX10_init_8 : decode cX10_init 8 = .ok (.dup, 1) := by decide +kernel
theorem dX10_init_9 : decode cX10_init 9 = .ok (.invokespecial 9, 3) := by decide +kernel
theorem dX10_init_12 : decode cX10_init 12 = .ok (.putfield 10, 3) := by decide +kernel
theorem dX10_init_15 : decode cX10_init 15 = .ok (.aload_n 0, 1) := by decide +kernel
theorem dX10_init_16 : decode cX10_init 16 = .ok (.new 7, 3) := by decide +kernel
theorem dX10_init_19 : decode cX10_init 19 = .ok (.dup, 1) := by decide +kernel
theorem dX10_init_20 : decode cX10_init 20 = .ok (.invokespecial 9, 3) := by decide +kernel
theorem dX10_init_23 : decode cX10_init 23 = .ok (.putfield 16, 3) := by decide +kernel
theorem dX10_init_26 : decode cX10_init 26 = .ok (.aload_n 0, 1) := by decide +kernel
theorem dX10_init_27 : decode cX10_init 27 = .ok (.new 19, 3) := by decide +kernel
theorem dX10_init_30 : decode cX10_init 30 = .ok (.dup, 1) := by decide +kernel
theorem dX10_init_31 : decode cX10_init 31 = .ok (.invokespecial 21, 3) := by decide +kernel
theorem dX10_init_34 : decode cX10_init 34 = .ok (.putfield 22, 3) := by decide +kernel
theorem dX10_init_37 : decode cX10_init 37 = .ok (.aload_n 0, 1) := by decide +kernel
theorem dX10_init_38 : decode cX10_init 38 = .ok (.new 26, 3) := by decide +kernel
theorem dX10_init_41 : decode cX10_init 41 = .ok (.dup, 1) := by decide +kernel
theorem dX10_init_42 : decode cX10_init 42 = .ok (.invokespecial 28, 3) := by decide +kernel
theorem dX10_init_45 : decode cX10_init 45 = .ok (.putfield 29, 3) := by decide +kernel
theorem dX10_init_48 : decode cX10_init 48 = .ok (.aload_n 0, 1) := by decide +kernel
theorem dX10_init_49 : decode cX10_init 49 = .ok (.new 33, 3) := by decide +kernel
theorem dX10_init_52 : decode cX10_init 52 = .ok (.dup, 1) := by decide +kernel
theorem dX10_init_53 : decode cX10_init 53 = .ok (.invokespecial 35, 3) := by decide +kernel
theorem dX10_init_56 : decode cX10_init 56 = .ok (.putfield 36, 3) := by decide +kernel
theorem dX10_init_59 : decode cX10_init 59 = .ok (.aload_n 0, 1) := by decide +kernel
theorem dX10_init_60 : decode cX10_init 60 = .ok (.new 33, 3) := by decide +kernel
theorem dX10_init_63 : decode cX10_init 63 = .ok (.dup, 1) := by decide +kernel
theorem dX10_init_64 : decode cX10_init 64 = .ok (.invokespecial 35, 3) := by decide +kernel
theorem dX10_init_67 : decode cX10_init 67 = .ok (.putfield 40, 3) := by decide +kernel
theorem dX10_init_70 : decode cX10_init 70 = .ok (.aload_n 0, 1) := by decide +kernel
theorem dX10_init_71 : decode cX10_init 71 = .ok (.new 43, 3) := by decide +kernel
theorem dX10_init_74 : decode cX10_init 74 = .ok (.dup, 1) := by decide +kernel
theorem dX10_init_75 : decode cX10_init 75 = .ok (.invokespecial 45, 3) := by decide +kernel
theorem dX10_init_78 : decode cX10_init 78 = .ok (.putfield 46, 3) := by decide +kernel
theorem dX10_init_81 : decode cX10_init 81 = .ok (.aload_n 0, 1) := by decide +kernel
theorem dX10_init_82 : decode cX10_init 82 = .ok (.new 50, 3) := by decide +kernel
theorem dX10_init_85 : decode cX10_init 85 = .ok (.dup, 1) := by decide +kernel
theorem dX10_init_86 : decode cX10_init 86 = .ok (.aload_n 0, 1) := by decide +kernel
theorem dX10_init_87 : decode cX10_init 87 = .ok (.getfield 10, 3) := by decide +kernel
theorem dX10_init_90 : decode cX10_init 90 = .ok (.aload_n 0, 1) := by decide +kernel
theorem dX10_init_91 : decode cX10_init 91 = .ok (.getfield 22, 3) := by decide +kernel
theorem dX10_init_94 : decode cX10_init 94 = .ok (.invokespecial 52, 3) := by decide +kernel
theorem dX10_init_97 : decode cX10_init 97 = .ok (.putfield 55, 3) := by decide +kernel
theorem dX10_init_100 : decode cX10_init 100 = .ok (.aload_n 0, 1) := by decide +kernel
theorem dX10_init_101 : decode cX10_init 101 = .ok (.new 59, 3) := by decide +kernel
theorem dX10_init_104 : decode cX10_init 104 = .ok (.dup, 1) := by decide +kernel
theorem dX10_init_105 : decode cX10_init 105 = .ok (.aload_n 0, 1) := by decide +kernel
theorem dX10_init_106 : decode cX10_init 106 = .ok (.getfield 10, 3) := by decide +kernel
theorem dX10_init_109 : decode cX10_init 109 = .ok (.aload_n 0, 1) := by decide +kernel
theorem dX10_init_110 : decode cX10_init 110 = .ok (.getfield 22, 3) := by decide +kernel
theorem dX10_init_113 : decode cX10_init 113 = .ok (.invokespecial 61, 3) := by decide +kernel
theorem dX10_init_116 : decode cX10_init 116 = .ok (.putfield 62, 3) := by decide +kernel
theorem dX10_init_119 : decode cX10_init 119 = .ok (.aload_n 0, 1) := by decide +kernel
theorem dX10_init_120 : decode cX10_init 120 = .ok (.new 66, 3) := by decide +kernel
theorem dX10_init_123 : decode cX10_init 123 = .ok (.dup, 1) := by decide +kernel
theorem dX10_init_124 : decode cX10_init 124 = .ok (.aload_n 0, 1) := by decide +kernel
theorem dX10_init_125 : decode cX10_init 125 = .ok (.getfield 10, 3) := by decide +kernel
theorem dX10_init_128 : decode cX10_init 128 = .ok (.aload_n 0, 1) := by decide +kernel
theorem dX10_init_129 : decode cX10_init 129 = .ok (.getfield 22, 3) := by decide +kernel
theorem dX10_init_132 : decode cX10_init 132 = .ok (.invokespecial 68, 3) := by decide +kernel
theorem dX10_init_135 : decode cX10_init 135 = .ok (.putfield 69, 3) := by decide +kernel
theorem dX10_init_138 : decode cX10_init 138 = .ok (.aload_n 0, 1) := by decide +kernel
theorem dX10_init_139 : decode cX10_init 139 = .ok (.new 73, 3) := by decide +kernel
theorem dX10_init_142 : decode cX10_init 142 = .ok (.dup, 1) := by decide +kernel
theorem dX10_init_143 : decode cX10_init 143 = .ok (.aload_n 0, 1) := by decide +kernel
theorem dX10_init_144 : decode cX10_init 144 = .ok (.getfield 10, 3) := by decide +kernel
theorem dX10_init_147 : decode cX10_init 147 = .ok (.aload_n 0, 1) := by decide +kernel
theorem dX10_init_148 : decode cX10_init 148 = .ok (.getfield 22, 3) := by decide +kernel
theorem dX10_init_151 : decode cX10_init 151 = .ok (.invokespecial 75, 3) := by decide +kernel
theorem dX10_init_154 : decode cX10_init 154 = .ok (.putfield 76, 3) := by decide +kernel
theorem dX10_init_157 : decode cX10_init 157 = .ok (.aload_n 0, 1) := by decide +kernel
theorem dX10_init_158 : decode cX10_init 158 = .ok (.new 80, 3) := by decide +kernel
theorem dX10_init_161 : decode cX10_init 161 = .ok (.dup, 1) := by decide +kernel
theorem dX10_init_162 : decode cX10_init 162 = .ok (.aload_n 0, 1) := by decide +kernel
theorem dX10_init_163 : decode cX10_init 163 = .ok (.getfield 10, 3) := by decide +kernel
theorem dX10_init_166 : decode cX10_init 166 = .ok (.aload_n 0, 1) := by decide +kernel
theorem dX10_init_167 : decode cX10_init 167 = .ok (.getfield 22, 3) := by decide +kernel
theorem dX10_init_170 : decode cX10_init 170 = .ok (.invokespecial 82, 3) := by decide +kernel
theorem dX10_init_173 : decode cX10_init 173 = .ok (.putfield 83, 3) := by decide +kernel
theorem dX10_init_176 : decode cX10_init 176 = .ok (.return_, 1) := by decide +kernel
set_option maxRecDepth 20000 in
theorem ggX10_type_X10_isOutside : GoodIn wsX10_type wsX10_isOutside := goodIn_r _ [5] (by decide +kernel) (by decide +kernel)
set_option maxRecDepth 20000 in
theorem gX10_type_X10_isOutside : GoodIn wsX10_type (va_wsS RX10 87 yX10_isOutside wsX10_isOutside) := goodIn_app (goodIn_of _ (by decide +kernel)) ggX10_type_X10_isOutside
set_option maxRecDepth 20000 in
theorem ggX10_type_X7_takes : GoodIn wsX10_type wsX7_takes := goodIn_r _ [9, 10, 11, 12, 4, 13, 26, 27, 28, 29, 30, 31, 32] (by decide +kernel) (by decide +kernel)
set_option maxRecDepth 20000 in
theorem gX10_type_X7_takes_n91 : GoodIn wsX10_type (wsX7_takes) := ggX10_type_X7_takes
theorem dX10_type_0 : decode cX10_type 0 = .ok (.iload_n 1, 1) := by decide +kernel
theorem dX10_type_1 : decode cX10_type 1 = .ok (.iconst 0, 1) := by decide +kernel
theorem dX10_type_2 : decode cX10_type 2 = .ok (.sipush 255, 3) := by decide +kernel
theorem dX10_type_5 : decode cX10_type 5 = .ok (.invokestatic 87, 3) := by decide +kernel
theorem dX10_type_8 : decode cX10_type 8 = .ok (.ifCond .eq 5, 3) := by decide +kernel
theorem dX10_type_11 : decode cX10_type 11 = .ok (.iconst (-1), 1) := by decide +kernel
theorem dX10_type_12 : decode cX10_type 12 = .ok (.ireturn, 1) := by decide +kernel
theorem dX10_type_13 : decode cX10_type 13 = .ok (.aload_n 0, 1) := by decide +kernel
theorem dX10_type_14 : decode cX10_type 14 = .ok (.getfield 46, 3) := by decide +kernel
theorem dX10_type_17 : decode cX10_type 17 = .ok (.iload_n 1, 1) := by decide +kernel
theorem dX10_type_18 : decode cX10_type 18 = .ok (.invokevirtual 91, 3) := by decide +kernel
theorem dX10_type_21 : decode cX10_type 21 = .ok (.ifCond .eq 13, 3) := by decide +kernel
theorem dX10_type_24 : decode cX10_type 24 = .ok (.aload_n 0, 1) := by decide +kernel
theorem dX10_type_25 : decode cX10_type 25 = .ok (.getfield 46, 3) := by decide +kernel
theorem dX10_type_28 : decode cX10_type 28 = .ok (.getfield 95, 3) := by decide +kernel
theorem dX10_type_31 : decode cX10_type 31 = .ok (.goto 5, 3) := by decide +kernel
theorem dX10_type_34 : decode cX10_type 34 = .ok (.bipush (-3), 2) := by decide +kernel
theorem dX10_type_36 : decode cX10_type 36 = .ok (.ireturn, 1) := by decide +kernel
theorem dX10_clear_0 : decode cX10_clear 0 = .ok (.aload_n 0, 1) := by decide +kernel
theorem dX10_clear_1 : decode cX10_clear 1 = .ok (.getfield 46, 3) := by decide +kernel
theorem dX10_clear_4 : decode cX10_clear 4 = .ok (.getfield 95, 3) := by decide +kernel
theorem dX10_clear_7 : decode cX10_clear 7 = .ok (.istore_n 1, 1) := by decide +kernel
theorem dX10_clear_8 : decode cX10_clear 8 = .ok (.aload_n 0, 1) := by decide +kernel
theorem dX10_clear_9 : decode cX10_clear 9 = .ok (.getfield 46, 3) := by decide +kernel
theorem dX10_clear_12 : decode cX10_clear 12 = .ok (.iconst 0, 1) := by decide +kernel
theorem dX10_clear_13 : decode cX10_clear 13 = .ok (.putfield 95, 3) := by decide +kernel
theorem dX10_clear_16 : decode cX10_clear 16 = .ok (.iload_n 1, 1) := by decide +kernel
theorem dX10_clear_17 : decode cX10_clear 17 = .ok (.ireturn, 1) := by decide +kernel
set_option maxRecDepth 20000 in
theorem ggX10_town_X7_readInto : GoodIn wsX10_town wsX7_readInto := goodIn_r _ [12, 13, 14, 15, 16, 17, 18, 19, 20, 21, 22, 23, 24, 25, 26, 27, 28, 29, 30, 31, 32, 33, 34, 35, 36, 37, 38, 39, 10, 40, 41, 42, 43, 44, 45, 46, 47, 48, 49, 50, 51, 52, 53, 54, 55, 56, 57, 58, 59, 60, 61, 62, 63, 64, 65, 66, 67, 68, 69, 70, 71, 72, 73, 74, 75, 76, 77, 78, 79, 80, 81, 82, 83, 84, 85, 86, 87, 88, 89, 90, 91, 92, 93, 94, 95, 96, 97, 98, 99, 100, 146, 147, 148, 149, 150, 151, 152, 125, 126, 127, 128, 129, 130, 131, 132, 133, 134, 153] (by decide +kernel) (by decide +kernel)
set_option maxRecDepth 20000 in
theorem gX10_town_X7_readInto_n99 : GoodIn wsX10_town (wsX7_readInto) := ggX10_town_X7_readInto
set_option maxRecDepth 20000 in
theorem ggX10_town_X9_becomes : GoodIn wsX10_town wsX9_becomes := goodIn_r _ [103, 22, 23, 86, 87, 88, 24, 25, 26, 27, 28, 104, 30, 105, 106, 107, 108, 109, 110, 33, 111, 112, 36, 125, 126, 127, 128, 129, 130, 131, 132, 133, 134, 153] (by decide +kernel) (by decide +kernel)
set_option maxRecDepth 20000 in
theorem gX10_town_X9_becomes_n103 : GoodIn wsX10_town (wsX9_becomes) := ggX10_town_X9_becomes
set_option maxRecDepth 20000 in
theorem ggX10_town_X5_becomes : GoodIn wsX10_town wsX5_becomes := goodIn_r _ [112, 36, 104, 30, 105, 106, 107, 108, 109, 153] (by decide +kernel) (by decide +kernel)
set_option maxRecDepth 20000 in
theorem gX10_town_X5_becomes_n110 : GoodIn wsX10_town (wsX5_becomes) := ggX10_town_X5_becomes
theorem dX10_town_0 : decode cX10_town 0 = .ok (.aload_n 0, 1) := by decide +kernel
theorem dX10_town_1 : decode cX10_town 1 = .ok (.getfield 46, 3) := by decide +kernel
theorem dX10_town_4 : decode cX10_town 4 = .ok (.aload_n 0, 1) := by decide +kernel
theorem dX10_town_5 : decode cX10_town 5 = .ok (.getfield 16, 3) := by decide +kernel
theorem dX10_town_8 : decode cX10_town 8 = .ok (.invokevirtual 99, 3) := by decide +kernel
theorem dX10_town_11 : decode cX10_town 11 = .ok (.istore_n 1, 1) := by decide +kernel
theorem dX10_town_12 : decode cX10_town 12 = .ok (.iload_n 1, 1) := by decide +kernel
theorem dX10_town_13 : decode cX10_town 13 = .ok (.ifCond .ge 5, 3) := by decide +kernel
theorem dX10_town_16 : decode cX10_town 16 = .ok (.iload_n 1, 1) := by decide +kernel
theorem dX10_town_17 : decode cX10_town 17 = .ok (.ireturn, 1) := by decide +kernel
theorem dX10_town_18 : decode cX10_town 18 = .ok (.aload_n 0, 1) := by decide +kernel
theorem dX10_town_19 : decode cX10_town 19 = .ok (.getfield 10, 3) := by decide +kernel
theorem dX10_town_22 : decode cX10_town 22 = .ok (.aload_n 0, 1) := by decide +kernel
theorem dX10_town_23 : decode cX10_town 23 = .ok (.getfield 16, 3) := by decide +kernel
theorem dX10_town_26 : decode cX10_town 26 = .ok (.invokevirtual 103, 3) := by decide +kernel
theorem dX10_town_29 : decode cX10_town 29 = .ok (.aload_n 0, 1) := by decide +kernel
theorem dX10_town_30 : decode cX10_town 30 = .ok (.getfield 22, 3) := by decide +kernel
theorem dX10_town_33 : decode cX10_town 33 = .ok (.aload_n 0, 1) := by decide +kernel
theorem dX10_town_34 : decode cX10_town 34 = .ok (.getfield 10, 3) := by decide +kernel
theorem dX10_town_37 : decode cX10_town 37 = .ok (.getfield 107, 3) := by decide +kernel
theorem dX10_town_40 : decode cX10_town 40 = .ok (.invokevirtual 110, 3) := by decide +kernel
theorem dX10_town_43 : decode cX10_town 43 = .ok (.aload_n 0, 1) := by decide +kernel
theorem dX10_town_44 : decode cX10_town 44 = .ok (.getfield 29, 3) := by decide +kernel
theorem dX10_town_47 : decode cX10_town 47 = .ok (.iconst 0, 1) := by decide +kernel
theorem dX10_town_48 : decode cX10_town 48 = .ok (.putfield 113, 3) := by decide +kernel
theorem dX10_town_51 : decode cX10_town 51 = .ok (.aload_n 0, 1) := by decide +kernel
theorem dX10_town_52 : decode cX10_town 52 = .ok (.getfield 76, 3) := by decide +kernel
theorem dX10_town_55 : decode cX10_town 55 = .ok (.iconst 0, 1) := by decide +kernel
theorem dX10_town_56 : decode cX10_town 56 = .ok (.putfield 116, 3) := by decide +kernel
theorem dX10_town_59 : decode cX10_town 59 = .ok (.aload_n 0, 1) := by decide +kernel
theorem dX10_town_60 : decode cX10_town 60 = .ok (.getfield 36, 3) := by decide +kernel
theorem dX10_town_63 : decode cX10_town 63 = .ok (.iconst 0, 1) := by decide +kernel
theorem dX10_town_64 : decode cX10_town 64 = .ok (.putfield 117, 3) := by decide +kernel
theorem dX10_town_67 : decode cX10_town 67 = .ok (.aload_n 0, 1) := by decide +kernel
theorem dX10_town_68 : decode cX10_town 68 = .ok (.getfield 40, 3) := by decide +kernel
theorem dX10_town_71 : decode cX10_town 71 = .ok (.iconst 0, 1) := by decide +kernel
theorem dX10_town_72 : decode cX10_town 72 = .ok (.putfield 117, 3) := by decide +kernel
theorem dX10_town_75 : decode cX10_town 75 = .ok (.aload_n 0, 1) := by decide +kernel
theorem dX10_town_76 : decode cX10_town 76 = .ok (.getfield 46, 3) := by decide +kernel
theorem dX10_town_79 : decode cX10_town 79 = .ok (.iconst 0, 1) := by decide +kernel
theorem dX10_town_80 : decode cX10_town 80 = .ok (.putfield 95, 3) := by decide +kernel
theorem dX10_town_83 : decode cX10_town 83 = .ok (.iload_n 1, 1) := by decide +kernel
theorem dX10_town_84 : decode cX10_town 84 = .ok (.ireturn, 1) := by decide +kernel
set_option maxRecDepth 20000 in
theorem ggX10_cell_X10_isOutside : GoodIn wsX10_cell wsX10_isOutside := goodIn_r _ [6] (by decide +kernel) (by decide +kernel)
set_option maxRecDepth 20000 in
theorem gX10_cell_X10_isOutside : GoodIn wsX10_cell (va_wsS RX10 87 yX10_isOutside wsX10_isOutside) := goodIn_app (goodIn_of _ (by decide +kernel)) ggX10_cell_X10_isOutside
set_option maxRecDepth 20000 in
theorem ggX10_cell_X10_at : GoodIn wsX10_cell wsX10_at := goodIn_r _ [9] (by decide +kernel) (by decide +kernel)
set_option maxRecDepth 20000 in
theorem gX10_cell_X10_at : GoodIn wsX10_cell (va_wsS RX10 125 yX10_at wsX10_at) := goodIn_app (goodIn_of _ (by decide +kernel)) ggX10_cell_X10_at
set_option maxRecDepth 20000 in
theorem ggX10_cell_X10_lyingIn : GoodIn wsX10_cell wsX10_lyingIn := goodIn_r _ [12, 13, 14, 15, 16, 17, 18, 19, 20, 21, 8, 5, 9, 22, 23, 24, 37, 38, 39, 40, 41, 42, 43, 44, 45, 46, 47] (by decide +kernel) (by decide +kernel)
set_option maxRecDepth 20000 in
theorem gX10_cell_X10_lyingIn : GoodIn wsX10_cell (va_wsS RX10 132 yX10_lyingIn wsX10_lyingIn) := goodIn_app (goodIn_of _ (by decide +kernel)) ggX10_cell_X10_lyingIn
theorem dX10_cell_0 : decode cX10_cell 0 = .ok (.iload_n 1, 1) := by decide +kernel
theorem dX10_cell_1 : decode cX10_cell 1 = .ok (.iconst 0, 1) := by decide +kernel
theorem dX10_cell_2 : decode cX10_cell 2 = .ok (.bipush 9, 2) := by decide +kernel
theorem dX10_cell_4 : decode cX10_cell 4 = .ok (.invokestatic 87, 3) := by decide +kernel
theorem dX10_cell_7 : decode cX10_cell 7 = .ok (.ifCond .ne 12, 3) := by decide +kernel
theorem dX10_cell_10 : decode cX10_cell 10 = .ok (.iload_n 2, 1) := by decide +kernel
theorem dX10_cell_11 : decode cX10_cell 11 = .ok (.iconst 0, 1) := by decide +kernel
theorem dX10_cell_12 : decode cX10_cell 12 = .ok (.iconst 2, 1) := by decide +kernel
theorem dX10_cell_13 : decode cX10_cell 13 = .ok (.invokestatic 87, 3) := by decide +kernel
theorem dX10_cell_16 : decode cX10_cell 16 = .ok (.ifCond .eq 5, 3) := by decide +kernel
theorem dX10_cell_19 : decode cX10_cell 19 = .ok (.iconst (-1), 1) := by decide +kernel
theorem dX10_cell_20 : decode cX10_cell 20 = .ok (.ireturn, 1) := by decide +kernel
theorem dX10_cell_21 : decode cX10_cell 21 = .ok (.iload_n 2, 1) := by decide +kernel
theorem dX10_cell_22 : decode cX10_cell 22 = .ok (.lookupswitch 50 #[(0, 26), (1, 38)], 26) := by decide +kernel
theorem dX10_cell_48 : decode cX10_cell 48 = .ok (.aload_n 0, 1) := by decide +kernel
theorem dX10_cell_49 : decode cX10_cell 49 = .ok (.getfield 10, 3) := by decide +kernel
theorem dX10_cell_52 : decode cX10_cell 52 = .ok (.getfield 121, 3) := by decide +kernel
theorem dX10_cell_55 : decode cX10_cell 55 = .ok (.iload_n 1, 1) := by decide +kernel
theorem dX10_cell_56 : decode cX10_cell 56 = .ok (.invokestatic 125, 3) := by decide +kernel
theorem dX10_cell_59 : decode cX10_cell 59 = .ok (.ireturn, 1) := by decide +kernel
theorem dX10_cell_60 : decode cX10_cell 60 = .ok (.aload_n 0, 1) := by decide +kernel
theorem dX10_cell_61 : decode cX10_cell 61 = .ok (.getfield 10, 3) := by decide +kernel
theorem dX10_cell_64 : decode cX10_cell 64 = .ok (.getfield 129, 3) := by decide +kernel
theorem dX10_cell_67 : decode cX10_cell 67 = .ok (.iload_n 1, 1) := by decide +kernel
theorem dX10_cell_68 : decode cX10_cell 68 = .ok (.invokestatic 125, 3) := by decide +kernel
theorem dX10_cell_71 : decode cX10_cell 71 = .ok (.ireturn, 1) := by decide +kernel
theorem dX10_cell_72 : decode cX10_cell 72 = .ok (.aload_n 0, 1) := by decide +kernel
theorem dX10_cell_73 : decode cX10_cell 73 = .ok (.getfield 10, 3) := by decide +kernel
theorem dX10_cell_76 : decode cX10_cell 76 = .ok (.aload_n 0, 1) := by decide +kernel
theorem dX10_cell_77 : decode cX10_cell 77 = .ok (.getfield 22, 3) := by decide +kernel
theorem dX10_cell_80 : decode cX10_cell 80 = .ok (.iload_n 1, 1) := by decide +kernel
theorem dX10_cell_81 : decode cX10_cell 81 = .ok (.invokestatic 132, 3) := by decide +kernel
theorem dX10_cell_84 : decode cX10_cell 84 = .ok (.ireturn, 1) := by decide +kernel
set_option maxRecDepth 20000 in
theorem ggX10_raft_X10_isNoRaft : GoodIn wsX10_raft wsX10_isNoRaft := goodIn_r _ [7, 8, 9, 10, 6, 11, 76, 77, 78, 79, 80, 81, 82, 83, 84, 85, 86, 87, 88, 89, 90, 91, 92, 93, 94, 95, 96, 97] (by decide +kernel) (by decide +kernel)
set_option maxRecDepth 20000 in
theorem gX10_raft_X10_isNoRaft : GoodIn wsX10_raft (wsV RX10 136 RX10 yX10_isNoRaft wsX10_isNoRaft) := goodIn_app (goodIn_of _ (by decide +kernel)) ggX10_raft_X10_isNoRaft
set_option maxRecDepth 20000 in
theorem ggX10_raft_X10_isOutside : GoodIn wsX10_raft wsX10_isOutside := goodIn_r _ [11] (by decide +kernel) (by decide +kernel)
set_option maxRecDepth 20000 in
theorem gX10_raft_X10_isOutside : GoodIn wsX10_raft (va_wsS RX10 87 yX10_isOutside wsX10_isOutside) := goodIn_app (goodIn_of _ (by decide +kernel)) ggX10_raft_X10_isOutside
set_option maxRecDepth 20000 in
theorem ggX10_raft_X5_get : GoodIn wsX10_raft wsX5_get := goodIn_r _ [15, 16, 17, 6, 18, 98] (by decide +kernel) (by decide +kernel)
set_option maxRecDepth 20000 in
theorem gX10_raft_X5_get_n139 : GoodIn wsX10_raft (wsX5_get) := ggX10_raft_X5_get
set_option maxRecDepth 20000 in
theorem ggX10_raft_X5_isGone : GoodIn wsX10_raft wsX5_isGone := goodIn_r _ [21, 22, 23, 24, 13, 25, 26, 12, 14, 15, 16, 17, 6, 18, 27, 28, 29, 30, 31, 98] (by decide +kernel) (by decide +kernel)
set_option maxRecDepth 20000 in
theorem gX10_raft_X5_isGone_n143 : GoodIn wsX10_raft (wsX5_isGone) := ggX10_raft_X5_isGone
set_option maxRecDepth 20000 in
theorem ggX10_raft_X2_estateOf : GoodIn wsX10_raft wsX2_estateOf := goodIn_r _ [35, 36, 37, 38, 13, 39, 40, 26, 12, 14, 15, 16, 17, 6, 18, 41, 42, 43, 33, 44, 19, 20, 21, 22, 23, 24, 25, 27, 28, 29, 30, 31, 45, 46, 47, 48, 49, 50, 51, 52, 99, 100, 88, 89, 90, 91, 92, 93, 94, 95, 96, 97, 98] (by decide +kernel) (by decide +kernel)
set_option maxRecDepth 20000 in
theorem gX10_raft_X2_estateOf_n146 : GoodIn wsX10_raft (wsX2_estateOf) := ggX10_raft_X2_estateOf
set_option maxRecDepth 20000 in
theorem ggX10_raft_X2_townOf : GoodIn wsX10_raft wsX2_townOf := goodIn_r _ [55, 36, 30, 6, 31, 27, 28, 29, 17, 18, 99, 100, 88, 89, 90, 91, 92, 93, 94, 95, 96, 97] (by decide +kernel) (by decide +kernel)
set_option maxRecDepth 20000 in
theorem gX10_raft_X2_townOf_n150 : GoodIn wsX10_raft (wsX2_townOf) := ggX10_raft_X2_townOf
set_option maxRecDepth 20000 in
theorem ggX10_raft_X2_mightOf : GoodIn wsX10_raft wsX2_mightOf := goodIn_r _ [58, 36, 37, 59, 60, 61, 33, 62, 38, 13, 39, 40, 26, 12, 14, 15, 16, 17, 6, 18, 27, 28, 29, 30, 31, 63, 64, 65, 66, 67, 68, 69, 70, 71, 72, 73, 74, 75, 99, 100, 88, 89, 90, 91, 92, 93, 94, 95, 96, 97, 98] (by decide +kernel) (by decide +kernel)
set_option maxRecDepth 20000 in
theorem gX10_raft_X2_mightOf_n153 : GoodIn wsX10_raft (wsX2_mightOf) := ggX10_raft_X2_mightOf
theorem dX10_raft_0 : decode cX10_raft 0 = .ok (.aload_n 0, 1) := by decide +kernel
theorem dX10_raft_1 : decode cX10_raft 1 = .ok (.iload_n 1, 1) := by decide +kernel
theorem dX10_raft_2 : decode cX10_raft 2 = .ok (.invokevirtual 136, 3) := by decide +kernel
theorem dX10_raft_5 : decode cX10_raft 5 = .ok (.ifCond .ne 12, 3) := by decide +kernel
theorem dX10_raft_8 : decode cX10_raft 8 = .ok (.iload_n 2, 1) := by decide +kernel
theorem dX10_raft_9 : decode cX10_raft 9 = .ok (.iconst 0, 1) := by decide +kernel
theorem dX10_raft_10 : decode cX10_raft 10 = .ok (.iconst 5, 1) := by decide +kernel
theorem dX10_raft_11 : decode cX10_raft 11 = .ok (.invokestatic 87, 3) := by decide +kernel
theorem dX10_raft_14 : decode cX10_raft 14 = .ok (.ifCond .eq 5, 3) := by decide +kernel
theorem dX10_raft_17 : decode cX10_raft 17 = .ok (.iconst (-1), 1) := by decide +kernel
theorem dX10_raft_18 : decode cX10_raft 18 = .ok (.ireturn, 1) := by decide +kernel
theorem dX10_raft_19 : decode cX10_raft 19 = .ok (.iload_n 2, 1) := by decide +kernel
theorem dX10_raft_20 : decode cX10_raft 20 = .ok (.tableswitch 93 0 4 #[36, 47, 64, 75, 84], 36) := by decide +kernel
theorem dX10_raft_56 : decode cX10_raft 56 = .ok (.aload_n 0, 1) := by decide +kernel
theorem dX10_raft_57 : decode cX10_raft 57 = .ok (.getfield 22, 3) := by decide +kernel
theorem dX10_raft_60 : decode cX10_raft 60 = .ok (.bipush 32, 2) := by decide +kernel
theorem dX10_raft_62 : decode cX10_raft 62 = .ok (.iload_n 1, 1) := by decide +kernel
theorem dX10_raft_63 : decode cX10_raft 63 = .ok (.invokevirtual 139, 3) := by decide +kernel
theorem dX10_raft_66 : decode cX10_raft 66 = .ok (.ireturn, 1) := by decide +kernel
theorem dX10_raft_67 : decode cX10_raft 67 = .ok (.aload_n 0, 1) := by decide +kernel
theorem dX10_raft_68 : decode cX10_raft 68 = .ok (.getfield 22, 3) := by decide +kernel
theorem dX10_raft_71 : decode cX10_raft 71 = .ok (.iload_n 1, 1) := by decide +kernel
theorem dX10_raft_72 : decode cX10_raft 72 = .ok (.invokevirtual 143, 3) := by decide +kernel
theorem dX10_raft_75 : decode cX10_raft 75 = .ok (.ifCond .eq 7, 3) := by decide +kernel
theorem dX10_raft_78 : decode cX10_raft 78 = .ok (.iconst 1, 1) := by decide +kernel
theorem dX10_raft_79 : decode cX10_raft 79 = .ok (.goto 4, 3) := by decide +kernel
theorem dX10_raft_82 : decode cX10_raft 82 = .ok (.iconst 0, 1) := by decide +kernel
theorem dX10_raft_83 : decode cX10_raft 83 = .ok (.ireturn, 1) := by decide +kernel
theorem dX10_raft_84 : decode cX10_raft 84 = .ok (.aload_n 0, 1) := by decide +kernel
theorem dX10_raft_85 : decode cX10_raft 85 = .ok (.getfield 22, 3) := by decide +kernel
theorem dX10_raft_88 : decode cX10_raft 88 = .ok (.bipush 38, 2) := by decide +kernel
theorem dX10_raft_90 : decode cX10_raft 90 = .ok (.iload_n 1, 1) := by decide +kernel
theorem dX10_raft_91 : decode cX10_raft 91 = .ok (.invokevirtual 139, 3) := by decide +kernel
theorem dX10_raft_94 : decode cX10_raft 94 = .ok (.ireturn, 1) := by decide +kernel
theorem dX10_raft_95 : decode cX10_raft 95 = .ok (.aload_n 0, 1) := by decide +kernel
theorem dX10_raft_96 : decode cX10_raft 96 = .ok (.getfield 69, 3) := by decide +kernel
theorem dX10_raft_99 : decode cX10_raft 99 = .ok (.iload_n 1, 1) := by decide +kernel
theorem dX10_raft_100 : decode cX10_raft 100 = .ok (.invokevirtual 146, 3) := by decide +kernel
theorem dX10_raft_103 : decode cX10_raft 103 = .ok (.ireturn, 1) := by decide +kernel
theorem dX10_raft_104 : decode cX10_raft 104 = .ok (.aload_n 0, 1) := by decide +kernel
theorem dX10_raft_105 : decode cX10_raft 105 = .ok (.getfield 69, 3) := by decide +kernel
theorem dX10_raft_108 : decode cX10_raft 108 = .ok (.iload_n 1, 1) := by decide +kernel
theorem dX10_raft_109 : decode cX10_raft 109 = .ok (.invokevirtual 150, 3) := by decide +kernel
theorem dX10_raft_112 : decode cX10_raft 112 = .ok (.ireturn, 1) := by decide +kernel
theorem dX10_raft_113 : decode cX10_raft 113 = .ok (.aload_n 0, 1) := by decide +kernel
theorem dX10_raft_114 : decode cX10_raft 114 = .ok (.getfield 69, 3) := by decide +kernel
theorem dX10_raft_117 : decode cX10_raft 117 = .ok (.aload_n 0, 1) := by decide +kernel
theorem dX10_raft_118 : decode cX10_raft 118 = .ok (.getfield 69, 3) := by decide +kernel
theorem dX10_raft_121 : decode cX10_raft 121 = .ok (.iload_n 1, 1) := by decide +kernel
theorem dX10_raft_122 : decode cX10_raft 122 = .ok (.invokevirtual 150, 3) := by decide +kernel
theorem dX10_raft_125 : decode cX10_raft 125 = .ok (.invokevirtual 153, 3) := by decide +kernel
theorem dX10_raft_128 : decode cX10_raft 128 = .ok (.ireturn, 1) := by decide +kernel
set_option maxRecDepth 20000 in
theorem ggX10_anchor_X10_isNoAnchor : GoodIn wsX10_anchor wsX10_isNoAnchor := goodIn_r _ [9, 1, 10, 11, 8, 12, 71, 72, 73, 74, 75, 76, 77, 78, 79, 80, 81, 82, 83, 84, 85, 86, 87, 88, 89, 90, 91, 92] (by decide +kernel) (by decide +kernel)
set_option maxRecDepth 20000 in
theorem gX10_anchor_X10_isNoAnchor : GoodIn wsX10_anchor (wsV RX10 156 RX10 yX10_isNoAnchor wsX10_isNoAnchor) := goodIn_app (goodIn_of _ (by decide +kernel)) ggX10_anchor_X10_isNoAnchor
set_option maxRecDepth 20000 in
theorem ggX10_anchor_X10_isOutside : GoodIn wsX10_anchor wsX10_isOutside := goodIn_r _ [12] (by decide +kernel) (by decide +kernel)
set_option maxRecDepth 20000 in
theorem gX10_anchor_X10_isOutside : GoodIn wsX10_anchor (va_wsS RX10 87 yX10_isOutside wsX10_isOutside) := goodIn_app (goodIn_of _ (by decide +kernel)) ggX10_anchor_X10_isOutside
set_option maxRecDepth 20000 in
theorem ggX10_anchor_X10_at : GoodIn wsX10_anchor wsX10_at := goodIn_r _ [15] (by decide +kernel) (by decide +kernel)
set_option maxRecDepth 20000 in
theorem gX10_anchor_X10_at : GoodIn wsX10_anchor (va_wsS RX10 125 yX10_at wsX10_at) := goodIn_app (goodIn_of _ (by decide +kernel)) ggX10_anchor_X10_at
set_option maxRecDepth 20000 in
theorem ggX10_anchor_X5_get : GoodIn wsX10_anchor wsX5_get := goodIn_r _ [19, 20, 14, 8, 15, 93] (by decide +kernel) (by decide +kernel)
set_option maxRecDepth 20000 in
theorem gX10_anchor_X5_get_n139 : GoodIn wsX10_anchor (wsX5_get) := ggX10_anchor_X5_get
set_option maxRecDepth 20000 in
theorem ggX10_anchor_X5_lies : GoodIn wsX10_anchor wsX5_lies := goodIn_r _ [23, 24, 16, 18, 17, 19, 20, 14, 8, 15, 93] (by decide +kernel) (by decide +kernel)
set_option maxRecDepth 20000 in
theorem gX10_anchor_X5_lies_n168 : GoodIn wsX10_anchor (wsX5_lies) := ggX10_anchor_X5_lies
set_option maxRecDepth 20000 in
theorem ggX10_anchor_X8_holdOf : GoodIn wsX10_anchor wsX8_holdOf := goodIn_r _ [28, 29, 30, 31, 32, 33, 26, 34, 35, 36, 8, 37, 21, 17, 22, 23, 24, 16, 18, 19, 20, 14, 15, 38, 39, 40, 41, 42, 43, 44, 45, 46, 47, 48, 49, 50, 51, 52, 94, 95, 96, 97, 83, 84, 85, 86, 87, 88, 89, 90, 91, 92, 93] (by decide +kernel) (by decide +kernel)
set_option maxRecDepth 20000 in
theorem gX10_anchor_X8_holdOf_n171 : GoodIn wsX10_anchor (wsX8_holdOf) := ggX10_anchor_X8_holdOf
set_option maxRecDepth 20000 in
theorem ggX10_anchor_X2_whoseIs : GoodIn wsX10_anchor wsX2_whoseIs := goodIn_r _ [56, 57, 58, 14, 8, 15, 59, 17, 60, 61, 62, 63, 64, 65, 24, 16, 18, 19, 20, 66, 67, 68, 69, 70, 98, 99, 83, 84, 85, 86, 87, 88, 89, 90, 91, 92, 93] (by decide +kernel) (by decide +kernel)
set_option maxRecDepth 20000 in
theorem gX10_anchor_X2_whoseIs_n174 : GoodIn wsX10_anchor (wsX2_whoseIs) := ggX10_anchor_X2_whoseIs
theorem dX10_anchor_0 : decode cX10_anchor 0 = .ok (.aload_n 0, 1) := by decide +kernel
theorem dX10_anchor_1 : decode cX10_anchor 1 = .ok (.iload_n 1, 1) := by decide +kernel
theorem dX10_anchor_2 : decode cX10_anchor 2 = .ok (.invokevirtual 156, 3) := by decide +kernel
theorem dX10_anchor_5 : decode cX10_anchor 5 = .ok (.ifCond .ne 13, 3) := by decide +kernel
theorem dX10_anchor_8 : decode cX10_anchor 8 = .ok (.iload_n 2, 1) := by decide +kernel
theorem dX10_anchor_9 : decode cX10_anchor 9 = .ok (.iconst 0, 1) := by decide +kernel
theorem dX10_anchor_10 : decode cX10_anchor 10 = .ok (.bipush 8, 2) := by decide +kernel
theorem dX10_anchor_12 : decode cX10_anchor 12 = .ok (.invokestatic 87, 3) := by decide +kernel
theorem dX10_anchor_15 : decode cX10_anchor 15 = .ok (.ifCond .eq 5, 3) := by decide +kernel
theorem dX10_anchor_18 : decode cX10_anchor 18 = .ok (.iconst (-1), 1) := by decide +kernel
theorem dX10_anchor_19 : decode cX10_anchor 19 = .ok (.ireturn, 1) := by decide +kernel
theorem dX10_anchor_20 : decode cX10_anchor 20 = .ok (.iload_n 2, 1) := by decide +kernel
theorem dX10_anchor_21 : decode cX10_anchor 21 = .ok (.tableswitch 151 0 7 #[47, 59, 69, 81, 92, 104, 115, 126], 47) := by decide +kernel
theorem dX10_anchor_68 : decode cX10_anchor 68 = .ok (.aload_n 0, 1) := by decide +kernel
theorem dX10_anchor_69 : decode cX10_anchor 69 = .ok (.getfield 10, 3) := by decide +kernel
theorem dX10_anchor_72 : decode cX10_anchor 72 = .ok (.getfield 159, 3) := by decide +kernel
theorem dX10_anchor_75 : decode cX10_anchor 75 = .ok (.iload_n 1, 1) := by decide +kernel
theorem dX10_anchor_76 : decode cX10_anchor 76 = .ok (.invokestatic 125, 3) := by decide +kernel
theorem dX10_anchor_79 : decode cX10_anchor 79 = .ok (.ireturn, 1) := by decide +kernel
theorem dX10_anchor_80 : decode cX10_anchor 80 = .ok (.aload_n 0, 1) := by decide +kernel
theorem dX10_anchor_81 : decode cX10_anchor 81 = .ok (.getfield 22, 3) := by decide +kernel
theorem dX10_anchor_84 : decode cX10_anchor 84 = .ok (.iconst 0, 1) := by decide +kernel
theorem dX10_anchor_85 : decode cX10_anchor 85 = .ok (.iload_n 1, 1) := by decide +kernel
theorem dX10_anchor_86 : decode cX10_anchor 86 = .ok (.invokevirtual 139, 3) := by decide +kernel
theorem dX10_anchor_89 : decode cX10_anchor 89 = .ok (.ireturn, 1) := by decide +kernel
theorem dX10_anchor_90 : decode cX10_anchor 90 = .ok (.aload_n 0, 1) := by decide +kernel
theorem dX10_anchor_91 : decode cX10_anchor 91 = .ok (.getfield 10, 3) := by decide +kernel
theorem dX10_anchor_94 : decode cX10_anchor 94 = .ok (.getfield 162, 3) := by decide +kernel
theorem dX10_anchor_97 : decode cX10_anchor 97 = .ok (.iload_n 1, 1) := by decide +kernel
theorem dX10_anchor_98 : decode cX10_anchor 98 = .ok (.invokestatic 125, 3) := by decide +kernel
theorem dX10_anchor_101 : decode cX10_anchor 101 = .ok (.ireturn, 1) := by decide +kernel
theorem dX10_anchor_102 : decode cX10_anchor 102 = .ok (.aload_n 0, 1) := by decide +kernel
theorem dX10_anchor_103 : decode cX10_anchor 103 = .ok (.getfield 22, 3) := by decide +kernel
theorem dX10_anchor_106 : decode cX10_anchor 106 = .ok (.bipush 8, 2) := by decide +kernel
theorem dX10_anchor_108 : decode cX10_anchor 108 = .ok (.iload_n 1, 1) := by decide +kernel
theorem dX10_anchor_109 : decode cX10_anchor 109 = .ok (.invokevirtual 139, 3) := by decide +kernel
theorem dX10_anchor_112 : decode cX10_anchor 112 = .ok (.ireturn, 1) := by decide +kernel
theorem dX10_anchor_113 : decode cX10_anchor 113 = .ok (.aload_n 0, 1) := by decide +kernel
theorem dX10_anchor_114 : decode cX10_anchor 114 = .ok (.getfield 10, 3) := by decide +kernel
theorem dX10_anchor_117 : decode cX10_anchor 117 = .ok (.getfield 165, 3) := by decide +kernel
theorem dX10_anchor_120 : decode cX10_anchor 120 = .ok (.iload_n 1, 1) := by decide +kernel
theorem dX10_anchor_121 : decode cX10_anchor 121 = .ok (.invokestatic 125, 3) := by decide +kernel
theorem dX10_anchor_124 : decode cX10_anchor 124 = .ok (.ireturn, 1) := by decide +kernel
theorem dX10_anchor_125 : decode cX10_anchor 125 = .ok (.aload_n 0, 1) := by decide +kernel
theorem dX10_anchor_126 : decode cX10_anchor 126 = .ok (.getfield 22, 3) := by decide +kernel
theorem dX10_anchor_129 : decode cX10_anchor 129 = .ok (.bipush 16, 2) := by decide +kernel
theorem dX10_anchor_131 : decode cX10_anchor 131 = .ok (.iload_n 1, 1) := by decide +kernel
theorem dX10_anchor_132 : decode cX10_anchor 132 = .ok (.invokevirtual 139, 3) := by decide +kernel
theorem dX10_anchor_135 : decode cX10_anchor 135 = .ok (.ireturn, 1) := by decide +kernel
theorem dX10_anchor_136 : decode cX10_anchor 136 = .ok (.aload_n 0, 1) := by decide +kernel
theorem dX10_anchor_137 : decode cX10_anchor 137 = .ok (.getfield 22, 3) := by decide +kernel
theorem dX10_anchor_140 : decode cX10_anchor 140 = .ok (.bipush 24, 2) := by decide +kernel
theorem dX10_anchor_142 : decode cX10_anchor 142 = .ok (.iload_n 1, 1) := by decide +kernel
theorem dX10_anchor_143 : decode cX10_anchor 143 = .ok (.invokevirtual 139, 3) := by decide +kernel
theorem dX10_anchor_146 : decode cX10_anchor 146 = .ok (.ireturn, 1) := by decide +kernel
theorem dX10_anchor_147 : decode cX10_anchor 147 = .ok (.aload_n 0, 1) := by decide +kernel
theorem dX10_anchor_148 : decode cX10_anchor 148 = .ok (.getfield 22, 3) := by decide +kernel
theorem dX10_anchor_151 : decode cX10_anchor 151 = .ok (.iload_n 1, 1) := by decide +kernel
theorem dX10_anchor_152 : decode cX10_anchor 152 = .ok (.invokevirtual 168, 3) := by decide +kernel
theorem dX10_anchor_155 : decode cX10_anchor 155 = .ok (.ifCond .eq 14, 3) := by decide +kernel
theorem dX10_anchor_158 : decode cX10_anchor 158 = .ok (.aload_n 0, 1) := by decide +kernel
theorem dX10_anchor_159 : decode cX10_anchor 159 = .ok (.getfield 55, 3) := by decide +kernel
theorem dX10_anchor_162 : decode cX10_anchor 162 = .ok (.iload_n 1, 1) := by decide +kernel
theorem dX10_anchor_163 : decode cX10_anchor 163 = .ok (.invokevirtual 171, 3) := by decide +kernel
theorem dX10_anchor_166 : decode cX10_anchor 166 = .ok (.goto 5, 3) := by decide +kernel
theorem dX10_anchor_169 : decode cX10_anchor 169 = .ok (.bipush (-9), 2) := by decide +kernel
theorem dX10_anchor_171 : decode cX10_anchor 171 = .ok (.ireturn, 1) := by decide +kernel
theorem dX10_anchor_172 : decode cX10_anchor 172 = .ok (.aload_n 0, 1) := by decide +kernel
theorem dX10_anchor_173 : decode cX10_anchor 173 = .ok (.getfield 69, 3) := by decide +kernel
theorem dX10_anchor_176 : decode cX10_anchor 176 = .ok (.iload_n 1, 1) := by decide +kernel
theorem dX10_anchor_177 : decode cX10_anchor 177 = .ok (.invokevirtual 174, 3) := by decide +kernel
theorem dX10_anchor_180 : decode cX10_anchor 180 = .ok (.ireturn, 1) := by decide +kernel
